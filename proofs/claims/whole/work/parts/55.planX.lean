/-! the class's plan -/
def orN (f : Nat → Bool) : Nat → Nat
  | 0 => 0
  | k + 1 => if f k = true then orN f k ||| 2 ^ k else orN f k
theorem orN_lt {f : Nat → Bool} : ∀ k, orN f k < 2 ^ k
  | 0 => by rw [orN]; decide
  | k + 1 => by
    have h := orN_lt (f := f) k
    have h2 : orN f k < 2 ^ (k + 1) := Nat.lt_of_lt_of_le h (Nat.pow_le_pow_right (by decide) (by omega))
    rw [orN]
    by_cases c : f k = true
    · rw [if_pos c]; exact or_lt h2 (by omega)
    · rw [if_neg c]; exact h2
theorem orN_bit {f : Nat → Bool} {i : Nat} : ∀ k, (orN f k).testBit i = (decide (i < k) && f i)
  | 0 => by rw [orN, Nat.zero_testBit, decide_eq_false (by omega)]; rfl
  | k + 1 => by
    have h := orN_bit (f := f) (i := i) k
    rw [orN]
    by_cases c : f k = true
    · rw [if_pos c, test_or, h]
      by_cases e : k = i
      · subst e; rw [c, decide_eq_true (rfl : k = k), decide_eq_true (show k < k + 1 by omega)]; simp
      · rw [decide_eq_false e, Bool.or_false]
        by_cases q : i < k
        · rw [decide_eq_true q, decide_eq_true (show i < k + 1 by omega)]
        · rw [decide_eq_false q, decide_eq_false (show ¬ i < k + 1 by omega)]
    · rw [if_neg c, h]
      by_cases e : k = i
      · subst e; rw [Bool.eq_false_iff.mpr c]; simp
      · by_cases q : i < k
        · rw [decide_eq_true q, decide_eq_true (show i < k + 1 by omega)]
        · rw [decide_eq_false q, decide_eq_false (show ¬ i < k + 1 by omega)]
theorem ix5' (a b : Nat) : nI a * (5 : Int32) + nI b = nI (5 * a + b) := by
  rw [show (5 : Int32) = nI 5 from rfl, pk_mul, nI_add, Nat.mul_comm]
theorem builtX {σ : St} {n : Nat} {t : TD} (h : TX σ n t) {set s : Nat} (hs : s < t.1) : fX7_isBuilt σ (nI s) (nI set) = some (i01B (freeD t set s)) := by
  obtain ⟨h1, h2, h3, h4, h5⟩ := h
  obtain ⟨q1, q2⟩ := h3 s hs
  have := ms_le (t.2.1 s) set
  unfold fX7_isBuilt freeD
  rw [if_pos (inx (show s < 5 by omega) (by decide)), nI_clamp (by omega), q2, nI_ms]
  by_cases c : ms (t.2.1 s) set = 0
  · rw [if_pos (by rw [c]; rfl), decide_eq_true c]; rfl
  · rw [if_neg (show ¬ nI (ms (t.2.1 s) set) = (0 : Int32) from fun e => c (nI_inj (by omega) (by decide) (show nI _ = nI 0 from e))), decide_eq_false c]; rfl
/-- what the class plans over -/
def CX (σ : St) (d : SD) (t : TD) (wn : Nat → Nat) : Prop := StX σ d ∧ TX σ d.1 t ∧ 2 ^ d.1 ≤ gn σ 32 ∧ gn σ 32 ≤ 16384 ∧ WayN d wn ∧ (∀ s, s < 2 ^ d.1 → gb σ 32 s = lN (wn s) ∧ wn s < 2 ^ 62) ∧ 5 * 2 ^ d.1 ≤ gn σ 33 ∧ gn σ 33 ≤ 81920
def NX (σ : St) (d : SD) (t : TD) : Prop := ∀ s, s < t.1 → ga σ 34 s = nI (orN (t.2.2.2 s) d.1)
theorem TX_saf {σ : St} {n k : Nat} {t : TD} {c : Nat → Int32} (hk : k = 33 ∨ k = 34 ∨ k = 35) (h : TX σ n t) : TX (saf σ k c) n t := by
  obtain ⟨h1, h2, h3, h4, h5⟩ := h
  rcases hk with rfl | rfl | rfl
  · exact ⟨h1, h2, h3, fun a b ha hb => ⟨(h4 a b ha hb).1, (h4 a b ha hb).2.1, (congrFun (if_neg (show ¬ 27 + a = 33 by omega)) b).trans (h4 a b ha hb).2.2⟩, h5⟩
  · exact ⟨h1, h2, h3, fun a b ha hb => ⟨(h4 a b ha hb).1, (h4 a b ha hb).2.1, (congrFun (if_neg (show ¬ 27 + a = 34 by omega)) b).trans (h4 a b ha hb).2.2⟩, h5⟩
  · exact ⟨h1, h2, h3, fun a b ha hb => ⟨(h4 a b ha hb).1, (h4 a b ha hb).2.1, (congrFun (if_neg (show ¬ 27 + a = 35 by omega)) b).trans (h4 a b ha hb).2.2⟩, h5⟩
theorem CX_saf {σ : St} {d : SD} {t : TD} {wn : Nat → Nat} {c : Nat → Int32} (h : CX σ d t wn) : CX (saf σ 33 c) d t wn := ⟨h.1, TX_saf (Or.inl rfl) h.2.1, h.2.2⟩
theorem canX {σ : St} {d : SD} {t : TD} {wn : Nat → Nat} (h : CX σ d t wn) {set i : Nat} (hset : set < 2 ^ d.1) (hi : i < d.1) (h0 : wn set ≠ 0) : fX4_canLay σ (nI i) (nI set) = some (i01B (mayD d set i)) := by
  obtain ⟨hX, hT, l1, l2, hW, hw, l3, l4⟩ := h
  have hn : d.1 ≤ 14 := hX.1
  have hp : 2 ^ d.1 ≤ 2 ^ 14 := Nat.pow_le_pow_right (by decide) hn
  have hor := or_lt hset hi
  unfold fX4_canLay
  rw [borX hX (by omega) hi, pow_eq (by omega), nI_or, nI_clamp (by omega)]
  simp only [obS, i01B_0]
  unfold mayD
  cases hb : borD d set i
  · rw [if_pos rfl]; rfl
  · obtain ⟨w1, w2⟩ := hw _ hor
    rw [if_neg (show ¬ (true = false) by decide), if_pos (inx' (show (set ||| 2 ^ i) < gn σ 32 by omega) (by omega)), w1]
    cases hc : cenD d (set ||| 2 ^ i)
    · have : wn (set ||| 2 ^ i) = 0 := by
        refine Classical.byContradiction fun q => ?_
        have := hW.2.1 _ hor q
        rw [hc] at this
        exact absurd this (by decide)
      rw [if_pos (by rw [this]; rfl)]; rfl
    · have := hW.2.2.1 set i hset hi h0 hb hc
      rw [if_neg (lN_ne0 (by omega) (by omega))]; rfl
theorem may_rch {d : SD} {wn : Nat → Nat} (hW : WayN d wn) {set i : Nat} (hset : set < 2 ^ d.1) (hi : i < d.1) (h0 : wn set ≠ 0) (hm : mayD d set i = true) : wn (set ||| 2 ^ i) ≠ 0 := by
  unfold mayD at hm
  rw [Bool.and_eq_true] at hm
  exact hW.2.2.1 set i hset hi h0 hm.1 hm.2
/-- the costs of the sets above that can be -/
def AbvX (d : SD) (t : TD) (D : Nat → Nat → Nat) (wn : Nat → Nat) (k : Nat) (c : Nat → Int32) : Prop := ∀ set s, k ≤ set → set < 2 ^ d.1 → s < t.1 → wn set ≠ 0 → c (5 * set + s) = nI (D set s)
theorem bs_none {f : Nat → Bool} {v : Nat → Nat} {i : Nat} : ∀ r, (∀ j, i ≤ j → j < i + r → f j = false) → bsN f v (i + r) = bsN f v i
  | 0, _ => rfl
  | r + 1, h => by
    rw [← Nat.add_assoc, bsN, if_neg (by rw [h (i + r) (by omega) (by omega)]; decide), bs_none r (fun j a b => h j a (by omega))]
theorem bs_zero {f : Nat → Bool} {v : Nat → Nat} {i : Nat} (h : bsN f v i = 0) : ∀ r, bsN f v (i + r) = 0
  | 0 => h
  | r + 1 => by
    rw [← Nat.add_assoc, bsN, bs_zero h r]
    by_cases c : f (i + r) = true
    · rw [if_pos c]; omega
    · rw [if_neg c]
theorem leastX {σ : St} {d : SD} {t : TD} {wn : Nat → Nat} {D : Nat → Nat → Nat} (h : CX σ d t wn) (hD : ∀ set s, D set s ≤ 1000000) {set s : Nat} (hset : set < 2 ^ d.1) (hs : s < t.1) (h0 : wn set ≠ 0) {c : Nat → Int32} (hc : AbvX d t D wn (set + 1) c) : fX4_leastAfterLaying (saf σ 33 c) (nI set) (nI s) (nI (orN (mayD d set) d.1 &&& orN (t.2.2.2 s) d.1)) = some (nI (baseD d t D set s)) := by
  obtain ⟨hX, hT, l1, l2, hW, hw, l3, l4⟩ := id h
  have hn : d.1 ≤ 14 := hX.1
  have hm : t.1 ≤ 5 := hT.1
  have hp : 2 ^ d.1 ≤ 2 ^ 14 := Nat.pow_le_pow_right (by decide) hn
  have e1 : gi σ 10 = nI d.1 := hX.2.2.1
  have hMlt : orN (mayD d set) d.1 &&& orN (t.2.2.2 s) d.1 < 2 ^ d.1 := Nat.and_lt_two_pow _ (orN_lt d.1)
  have hMb : ∀ i, i < d.1 → (orN (mayD d set) d.1 &&& orN (t.2.2.2 s) d.1).testBit i = (t.2.2.2 s i && mayD d set i) := fun i hi => by
    rw [Nat.testBit_and, orN_bit, orN_bit, decide_eq_true hi, Bool.true_and, Bool.true_and, Bool.and_comm]
  generalize orN (mayD d set) d.1 &&& orN (t.2.2.2 s) d.1 = M at *
  unfold fX4_leastAfterLaying baseD
  have key : ∀ r i f, i + r = d.1 → r < f → fX4_leastAfterLaying_7 (fX4_leastAfterLaying_7_k (saf σ 33 c) (nI set) (nI s) (nI M)) (saf σ 33 c) (nI set) (nI s) (nI M) f (nI (bsN (fun i => t.2.2.2 s i && mayD d set i) (fun i => D (set ||| 2 ^ i) s) i)) (nI i) = some (nI (bsN (fun i => t.2.2.2 s i && mayD d set i) (fun i => D (set ||| 2 ^ i) s) d.1)) := by
    intro r
    induction r with
    | zero =>
      intro i f hi hf
      cases f with
      | zero => omega
      | succ f =>
        have : i = d.1 := by omega
        subst this
        rw [fX4_leastAfterLaying_7, show gi (saf σ 33 c) 10 = nI d.1 from e1, if_pos (nI_le (Nat.le_refl _) (by omega))]
        show (if nI M = 0 then some (nI (bsN (fun i => t.2.2.2 s i && mayD d set i) (fun i => D (set ||| 2 ^ i) s) d.1)) else if nI (bsN (fun i => t.2.2.2 s i && mayD d set i) (fun i => D (set ||| 2 ^ i) s) d.1) ≤ 0 then some (nI (bsN (fun i => t.2.2.2 s i && mayD d set i) (fun i => D (set ||| 2 ^ i) s) d.1)) else some (nI (bsN (fun i => t.2.2.2 s i && mayD d set i) (fun i => D (set ||| 2 ^ i) s) d.1))) = _
        rw [ite_self, ite_self]
    | succ r ih =>
      intro i f hi hf
      cases f with
      | zero => omega
      | succ f =>
        have hin : i < d.1 := by omega
        have hbl := bs_le (f := fun i => t.2.2.2 s i && mayD d set i) (v := fun i => D (set ||| 2 ^ i) s) i
        have hor := or_lt hset hin
        rw [fX4_leastAfterLaying_7]
        by_cases hM0 : M = 0
        · rw [if_pos (show nI M = 0 by rw [hM0]; rfl)]
          have := bs_none (f := fun i => t.2.2.2 s i && mayD d set i) (v := fun i => D (set ||| 2 ^ i) s) (i := i) (r + 1) (fun j a b => by
            have := hMb j (by omega)
            rw [hM0, Nat.zero_testBit] at this
            exact this.symm)
          rw [hi] at this
          rw [this]
          rfl
        · rw [if_neg (show ¬ nI M = 0 from fun e => hM0 (nI_inj (by omega) (by decide) (show nI M = nI 0 from e)))]
          by_cases hz : bsN (fun i => t.2.2.2 s i && mayD d set i) (fun i => D (set ||| 2 ^ i) s) i = 0
          · rw [if_pos (show nI (bsN (fun i => t.2.2.2 s i && mayD d set i) (fun i => D (set ||| 2 ^ i) s) i) ≤ 0 from nI_le (b := 0) (by omega) (by decide))]
            have := bs_zero hz (r + 1)
            rw [hi] at this
            rw [this, hz]
            rfl
          · rw [if_neg (show ¬ nI (bsN (fun i => t.2.2.2 s i && mayD d set i) (fun i => D (set ||| 2 ^ i) s) i) ≤ 0 from nI_ge (a := 0) (by omega) (by omega)), show gi (saf σ 33 c) 10 = nI d.1 from e1, if_neg (nI_ge hin (by omega)), bit_eq (by omega) (by omega), nI_1]
            have hih := ih (i + 1) f (by omega) (by omega)
            rw [bsN] at hih
            have hb := hMb i hin
            cases hf2 : (t.2.2.2 s i && mayD d set i)
            · rw [(bit_f M i).mpr (hb.trans hf2), if_neg (show ¬ nI 0 = (1 : Int32) by decide)]
              rw [if_neg (by rw [hf2]; decide)] at hih
              exact hih
            · rw [(bit_t M i).mpr (hb.trans hf2), if_pos (show nI 1 = (1 : Int32) by decide), pow_eq (by omega), nI_or]
              rw [if_pos (by rw [hf2])] at hih
              rw [Bool.and_eq_true] at hf2
              have hr := may_rch hW hset hin h0 hf2.2
              have hgt := may_gt hf2.2
              unfold fX4_place
              simp only [obS]
              rw [ix5', nI_clamp (by omega), if_pos (inx' (show 5 * (set ||| 2 ^ i) + s < gn (saf σ 33 c) 33 by show _ < gn σ 33; omega) (by show gn σ 33 < _; omega)), show ga (saf σ 33 c) 33 (5 * (set ||| 2 ^ i) + s) = nI (D (set ||| 2 ^ i) s) from hc _ s (by omega) hor hs hr]
              have hDl := hD (set ||| 2 ^ i) s
              by_cases cl : D (set ||| 2 ^ i) s < bsN (fun i => t.2.2.2 s i && mayD d set i) (fun i => D (set ||| 2 ^ i) s) i
              · rw [if_pos (nI_lt cl (by omega))]
                rw [Nat.min_eq_right (by omega)] at hih
                exact hih
              · rw [if_neg (nI_nlt (by omega) (by omega))]
                rw [Nat.min_eq_left (by omega)] at hih
                exact hih
  exact key d.1 0 KF (by omega) (by have := KF_ge; omega)
theorem layX {σ : St} {d : SD} {t : TD} {wn : Nat → Nat} {D : Nat → Nat → Nat} (h : CX σ d t wn) (hN : NX σ d t) (hD : ∀ set s, D set s ≤ 1000000) {set : Nat} (hset : set < 2 ^ d.1) (h0 : wn set ≠ 0) {c : Nat → Int32} (hc : AbvX d t D wn (set + 1) c) : fX4_priceByLaying (saf σ 33 c) (nI set) = some (saf σ 33 (rowU c set t.1 (baseD d t D set))) := by
  obtain ⟨hX, hT, l1, l2, hW, hw, l3, l4⟩ := id h
  have hn : d.1 ≤ 14 := hX.1
  have hm : t.1 ≤ 5 := hT.1
  have hp : 2 ^ d.1 ≤ 2 ^ 14 := Nat.pow_le_pow_right (by decide) hn
  have e1 : gi σ 10 = nI d.1 := hX.2.2.1
  have e2 : gi σ 12 = nI t.1 := hT.2.1
  have hol := orN_lt (f := mayD d set) d.1
  unfold fX4_priceByLaying
  obtain ⟨s', a1, a2⟩ := for_loop0 (fX4_priceByLaying_4 (fX4_priceByLaying_4_k (saf σ 33 c) (nI set)) (saf σ 33 c) (nI set)) (fX4_priceByLaying_4_k (saf σ 33 c) (nI set)) (fun i v => v = nI (orN (mayD d set) i)) d.1 (by omega)
    (fun n v _ => by rw [fX4_priceByLaying_4, show gi (saf σ 33 c) 10 = nI d.1 from e1, if_pos (nI_le (Nat.le_refl _) (by omega))])
    (fun n i v hi hv => by
      subst hv
      rw [fX4_priceByLaying_4, show gi (saf σ 33 c) 10 = nI d.1 from e1, if_neg (nI_ge hi (by omega)), canX (CX_saf (c := c) h) hset hi h0, pow_eq (by omega), nI_1, orN, show (0 : Int32) = nI 0 from rfl, nI_or, nI_or]
      simp only [obS]
      rw [show nI 0 = (0 : Int32) from rfl]
      simp only [i01B_0]
      cases hy : mayD d set i
      · rw [if_pos rfl, if_neg (show ¬ (false = true) by decide), Nat.or_zero]
        exact ⟨_, rfl, rfl⟩
      · rw [if_neg (show ¬ (true = false) by decide), if_pos rfl]
        exact ⟨_, rfl, rfl⟩)
    (0 : Int32) rfl
  rw [a2, a1]
  unfold fX4_priceByLaying_4_k
  obtain ⟨s2, b1, b2⟩ := for_loop0 (fX4_priceByLaying_42 (fX4_priceByLaying_42_k (nI set) (nI (orN (mayD d set) d.1))) (nI set) (nI (orN (mayD d set) d.1))) (fX4_priceByLaying_42_k (nI set) (nI (orN (mayD d set) d.1))) (fun k st => st = saf σ 33 (rowU c set k (baseD d t D set))) t.1 (by omega)
    (fun n st hst => by
      subst hst
      rw [fX4_priceByLaying_42, show gi (saf σ 33 (rowU c set t.1 (baseD d t D set))) 12 = nI t.1 from e2, if_pos (nI_le (Nat.le_refl _) (by omega))])
    (fun n k st hk hst => by
      subst hst
      refine ⟨_, rfl, ?_⟩
      have hc' : AbvX d t D wn (set + 1) (rowU c set k (baseD d t D set)) := fun set' s a b e w => by
        rw [rowU_out (by omega)]
        exact hc set' s a b e w
      rw [fX4_priceByLaying_42, show gi (saf σ 33 (rowU c set k (baseD d t D set))) 12 = nI t.1 from e2, if_neg (nI_ge hk (by omega))]
      unfold fX4_place
      simp only [obS]
      rw [ix5', if_pos (inx (show k < 5 by omega) (by decide)), nI_clamp (show k < 2 ^ 31 by omega), show ga (saf σ 33 (rowU c set k (baseD d t D set))) 34 k = nI (orN (t.2.2.2 k) d.1) from hN k hk, nI_and, leastX h hD hset hk h0 hc']
      simp only [obS]
      rw [nI_clamp (by omega), if_pos (inx' (show 5 * set + k < gn (saf σ 33 (rowU c set k (baseD d t D set))) 33 by show _ < gn σ 33; omega) (by show gn σ 33 < _; omega)), sa_saf, rowU_s rfl, nI_1])
    (saf σ 33 c) (by rw [rowU_0])
  refine Eq.trans b2 ?_
  rw [b1]
  rfl
/-- in the midst of a round of the class: stands ahead of v are through, and of v those from ahead of k -/
def RinX (fr : Nat → Bool) (P : Nat → Nat → Nat) (m : Nat) (D cs : Nat → Nat) (w k : Nat) (cc : Nat → Nat) : Prop := (∀ u, u < m → D u ≤ cc u ∧ cc u ≤ cs u) ∧ ∀ u v, u < m → v < m → v ≠ u → fr v = true → (v < w ∨ (v = w ∧ u < k)) → cc u ≤ P u v + cs v
theorem RinX_keep {fr : Nat → Bool} {P : Nat → Nat → Nat} {m : Nat} {D cs cc : Nat → Nat} {w k : Nat} (h : RinX fr P m D cs w k cc) (hq : k = w ∨ cc k ≤ P k w + cc w) (hw : w < m) (hk : k < m) : RinX fr P m D cs w (k + 1) cc := by
  refine ⟨h.1, fun u v hu hv hne hfr hc => ?_⟩
  by_cases e : u = k ∧ v = w
  · obtain ⟨rfl, rfl⟩ := e
    have := h.1 v hv
    rcases hq with q | q
    · exact absurd q.symm hne
    · omega
  · exact h.2 u v hu hv hne hfr (by omega)
theorem RinX_set {fr : Nat → Bool} {P : Nat → Nat → Nat} {m : Nat} {D cs cc : Nat → Nat} {w k : Nat} (hD : ∀ s t, s < m → t < m → t ≠ s → fr t = true → D s ≤ P s t + D t) (h : RinX fr P m D cs w k cc) (hne : k ≠ w) (hfr : fr w = true) (hl : P k w + cc w < cc k) (hw : w < m) (hk : k < m) : RinX fr P m D cs w (k + 1) (fun u => if u = k then P k w + cc w else cc u) := by
  have hk1 := h.1 w hw
  refine ⟨fun u hu => ?_, fun u v hu hv hne' hfr' hc => ?_⟩
  · have := h.1 u hu
    show D u ≤ (if u = k then P k w + cc w else cc u) ∧ (if u = k then P k w + cc w else cc u) ≤ cs u
    by_cases e : u = k
    · subst e
      have := hD u w hu hw (fun q => hne q.symm) hfr
      rw [if_pos rfl]; omega
    · rw [if_neg e]; exact this
  · show (if u = k then P k w + cc w else cc u) ≤ P u v + cs v
    by_cases e : u = k
    · subst e
      rw [if_pos rfl]
      by_cases ev : v = w
      · subst ev; omega
      · have := h.2 u v hu hv hne' hfr' (by omega); omega
    · rw [if_neg e]
      exact h.2 u v hu hv hne' hfr' (by omega)
theorem nw01 {x : Int32} (h : b01 x) : narrow .boolean (.int x) = .int x := by rcases h with rfl | rfl <;> rfl
theorem thruX {σ : St} {d : SD} {t : TD} {wn : Nat → Nat} (h : CX σ d t wn) {set w : Nat} (hset : set < 2 ^ d.1) (hw : w < t.1) (hfr : freeD t set w = true) {c : Nat → Int32} {D cs cc : Nat → Nat} (hD : ∀ s u, s < t.1 → u < t.1 → u ≠ s → freeD t set u = true → D s ≤ t.2.2.1 s u + D u) (hb : ∀ u, u < t.1 → cs u ≤ 1000000) (h0 : RinX (freeD t set) t.2.2.1 t.1 D cs w 0 cc) : ∃ fl cc', fX4_priceThrough (saf σ 33 (rowU c set t.1 cc)) (nI set) (nI w) = some (fl, saf σ 33 (rowU c set t.1 cc')) ∧ b01 fl ∧ (fl = 0 → cc' = cc) ∧ RinX (freeD t set) t.2.2.1 t.1 D cs (w + 1) 0 cc' := by
  obtain ⟨hX, hT, l1, l2, hW, hwn, l3, l4⟩ := id h
  have hn : d.1 ≤ 14 := hX.1
  have hm : t.1 ≤ 5 := hT.1
  have hp : 2 ^ d.1 ≤ 2 ^ 14 := Nat.pow_le_pow_right (by decide) hn
  have e1 : gi σ 12 = nI t.1 := hT.2.1
  have hgn : ∀ cc', gn (saf σ 33 (rowU c set t.1 cc')) 33 = gn σ 33 := fun _ => rfl
  unfold fX4_priceThrough fX4_place
  simp only [obS]
  rw [ix5', nI_clamp (by omega), hgn, if_pos (inx' (show 5 * set + w < gn σ 33 by omega) (by omega)), show ga (saf σ 33 (rowU c set t.1 cc)) 33 (5 * set + w) = nI (cc w) from rowU_in hw]
  obtain ⟨s', ⟨cc', e2, e3, e4, e5, e6⟩, e7⟩ := for_loop0 (fun n (s : St × Int32) i => fX4_priceThrough_18 (fX4_priceThrough_18_k (nI set) (nI w) (nI (cc w))) (nI set) (nI w) (nI (cc w)) n s.1 s.2 i) (fun s i => fX4_priceThrough_18_k (nI set) (nI w) (nI (cc w)) s.1 s.2 i) (fun k (s : St × Int32) => ∃ cc', s.1 = saf σ 33 (rowU c set t.1 cc') ∧ b01 s.2 ∧ (s.2 = 0 → cc' = cc) ∧ cc' w = cc w ∧ RinX (freeD t set) t.2.2.1 t.1 D cs w k cc') t.1 (by omega)
    (fun n s => by
      rintro ⟨cc', q1, _⟩
      show fX4_priceThrough_18 (fX4_priceThrough_18_k (nI set) (nI w) (nI (cc w))) (nI set) (nI w) (nI (cc w)) (n + 1) s.1 s.2 (nI t.1) = fX4_priceThrough_18_k (nI set) (nI w) (nI (cc w)) s.1 s.2 (nI t.1)
      rw [q1, fX4_priceThrough_18, show gi (saf σ 33 (rowU c set t.1 cc')) 12 = nI t.1 from e1, if_pos (nI_le (Nat.le_refl _) (by omega))])
    (fun n k s hk => by
      obtain ⟨st, fl⟩ := s
      rintro ⟨cc', q1, q2, q3, q4, hI⟩
      have q1 : st = saf σ 33 (rowU c set t.1 cc') := q1
      have q2 : b01 fl := q2
      subst q1
      obtain ⟨p1, p2, p3⟩ := hT.2.2.2.1 k w (by omega) (by omega)
      have b1 := (hI.1 k hk).2
      have b2 := hb k hk
      have b3 := (hI.1 w hw).2
      have b4 := hb w hw
      show ∃ s' : St × Int32, _ ∧ fX4_priceThrough_18 (fX4_priceThrough_18_k (nI set) (nI w) (nI (cc w))) (nI set) (nI w) (nI (cc w)) (n + 1) (saf σ 33 (rowU c set t.1 cc')) fl (nI k) = fX4_priceThrough_18 (fX4_priceThrough_18_k (nI set) (nI w) (nI (cc w))) (nI set) (nI w) (nI (cc w)) n s'.1 s'.2 (nI (k + 1))
      rw [fX4_priceThrough_18, show gi (saf σ 33 (rowU c set t.1 cc')) 12 = nI t.1 from e1, if_neg (nI_ge hk (by omega))]
      unfold fX4_place
      simp only [obS]
      rw [ix5', if_pos (inx (show k < 5 by omega) (by decide)), if_pos (inx (show w < 5 by omega) (by decide)), nI_clamp (show 5 * set + k < 2 ^ 31 by omega), nI_clamp (show k < 2 ^ 31 by omega), nI_clamp (show w < 2 ^ 31 by omega), nI_1, hgn]
      by_cases e : k = w
      · rw [if_pos (by rw [e])]
        exact ⟨(_, fl), ⟨cc', rfl, q2, q3, q4, RinX_keep hI (Or.inl e) hw hk⟩, rfl⟩
      · rw [if_neg (fun q => e (nI_inj (by omega) (by omega) q)), if_pos (inx' (show 5 * set + k < gn σ 33 by omega) (by omega)), show ga (saf σ 33 (rowU c set t.1 cc')) 33 (5 * set + k) = nI (cc' k) from rowU_in hk, show ga (saf σ 33 (rowU c set t.1 cc')) (27 + k) w = nI (t.2.2.1 k w) from (show ga (saf σ 33 (rowU c set t.1 cc')) (27 + k) w = ga σ (27 + k) w from congrFun (if_neg (show ¬ 27 + k = 33 by omega)) w).trans p3, nI_add]
        by_cases cl : cc' k ≤ t.2.2.1 k w + cc w
        · rw [if_pos (nI_le cl (by omega))]
          exact ⟨(_, fl), ⟨cc', rfl, q2, q3, q4, RinX_keep hI (Or.inr (by rw [q4]; exact cl)) hw hk⟩, rfl⟩
        · rw [if_neg (nI_ge (by omega) (by omega)), if_pos (inx' (show 5 * set + k < gn σ 33 by omega) (by omega)), sa_saf, rowU_upd hk]
          refine ⟨(_, 1), ⟨_, rfl, Or.inr rfl, fun q => absurd q (show ¬ (1 : Int32) = 0 by decide), ?_, ?_⟩, rfl⟩
          · show (if w = k then t.2.2.1 k w + cc w else cc' w) = cc w
            rw [if_neg (fun q => e q.symm)]; exact q4
          · have := RinX_set hD hI e hfr (by rw [q4]; omega) hw hk
            rw [q4] at this
            exact this)
    (saf σ 33 (rowU c set t.1 cc), (0 : Int32)) ⟨cc, rfl, Or.inl rfl, fun _ => rfl, rfl, h0⟩
  refine ⟨s'.2, cc', ?_, e3, e4, e6.1, fun u v hu hv hne hf hc => e6.2 u v hu hv hne hf (by omega)⟩
  refine Eq.trans e7 ?_
  show fX4_priceThrough_18_k (nI set) (nI w) (nI (cc w)) s'.1 s'.2 (nI t.1) = _
  unfold fX4_priceThrough_18_k
  rw [e2, if_pos (nw01 e3)]
theorem roundX {σ : St} {d : SD} {t : TD} {wn : Nat → Nat} (h : CX σ d t wn) {set : Nat} (hset : set < 2 ^ d.1) {c : Nat → Int32} {D cs : Nat → Nat} (hD : ∀ s u, s < t.1 → u < t.1 → u ≠ s → freeD t set u = true → D s ≤ t.2.2.1 s u + D u) (hb : ∀ u, u < t.1 → D u ≤ cs u ∧ cs u ≤ 1000000) (k4 : St → Int32 → Int32 → Option St) (r : Nat) : ∃ fl cc', fX4_priceByShifting_24 k4 (fX4_priceByShifting_24_k k4 (nI set) (nI r)) (nI set) (nI r) KF (saf σ 33 (rowU c set t.1 cs)) 0 0 = k4 (saf σ 33 (rowU c set t.1 cc')) fl (nI (r + 1)) ∧ b01 fl ∧ (fl = 0 → cc' = cs) ∧ RdOK (freeD t set) t.2.2.1 t.1 D cs cc' := by
  obtain ⟨hX, hT, l1, l2, hW, hwn, l3, l4⟩ := id h
  have hm : t.1 ≤ 5 := hT.1
  have e1 : gi σ 12 = nI t.1 := hT.2.1
  obtain ⟨s', ⟨cc', e2, e3, e4, e6⟩, e7⟩ := for_loop0 (fun n (s : St × Int32) i => fX4_priceByShifting_24 k4 (fX4_priceByShifting_24_k k4 (nI set) (nI r)) (nI set) (nI r) n s.1 s.2 i) (fun s i => fX4_priceByShifting_24_k k4 (nI set) (nI r) s.1 s.2 i) (fun k (s : St × Int32) => ∃ cc', s.1 = saf σ 33 (rowU c set t.1 cc') ∧ b01 s.2 ∧ (s.2 = 0 → cc' = cs) ∧ RinX (freeD t set) t.2.2.1 t.1 D cs k 0 cc') t.1 (by omega)
    (fun n s => by
      rintro ⟨cc', q1, _⟩
      show fX4_priceByShifting_24 k4 (fX4_priceByShifting_24_k k4 (nI set) (nI r)) (nI set) (nI r) (n + 1) s.1 s.2 (nI t.1) = fX4_priceByShifting_24_k k4 (nI set) (nI r) s.1 s.2 (nI t.1)
      rw [q1, fX4_priceByShifting_24, show gi (saf σ 33 (rowU c set t.1 cc')) 12 = nI t.1 from e1, if_pos (nI_le (Nat.le_refl _) (by omega))])
    (fun n k s hk => by
      obtain ⟨st, fl⟩ := s
      rintro ⟨cc', q1, q2, q3, hI⟩
      have q1 : st = saf σ 33 (rowU c set t.1 cc') := q1
      have q2 : b01 fl := q2
      have q3 : fl = 0 → cc' = cs := q3
      subst q1
      show ∃ s' : St × Int32, _ ∧ fX4_priceByShifting_24 k4 (fX4_priceByShifting_24_k k4 (nI set) (nI r)) (nI set) (nI r) (n + 1) (saf σ 33 (rowU c set t.1 cc')) fl (nI k) = fX4_priceByShifting_24 k4 (fX4_priceByShifting_24_k k4 (nI set) (nI r)) (nI set) (nI r) n s'.1 s'.2 (nI (k + 1))
      rw [fX4_priceByShifting_24, show gi (saf σ 33 (rowU c set t.1 cc')) 12 = nI t.1 from e1, if_neg (nI_ge hk (by omega)), builtX (TX_saf (c := rowU c set t.1 cc') (Or.inl rfl) hT) hk, nI_1]
      simp only [obS, i01B_0]
      cases hf : freeD t set k
      · rw [if_pos rfl]
        refine ⟨(_, fl), ⟨cc', rfl, q2, q3, hI.1, fun u v hu hv hne hfr hc => ?_⟩, rfl⟩
        by_cases ev : v = k
        · subst ev; rw [hf] at hfr; exact absurd hfr (by decide)
        · exact hI.2 u v hu hv hne hfr (by omega)
      · rw [if_neg (show ¬ (true = false) by decide)]
        obtain ⟨f2, cc2, r1, r2, r3, r4⟩ := thruX h hset hk hf (c := c) hD (fun u hu => (hb u hu).2) hI
        rw [r1]
        simp only [obS]
        rcases r2 with r2 | r2
        · rw [if_pos r2]
          refine ⟨(_, fl), ⟨cc2, rfl, q2, fun q => ?_, r4⟩, rfl⟩
          rw [r3 r2]; exact q3 q
        · rw [if_neg (by rw [r2]; decide)]
          exact ⟨(_, 1), ⟨cc2, rfl, Or.inr rfl, fun q => absurd q (show ¬ (1 : Int32) = 0 by decide), r4⟩, rfl⟩)
    (saf σ 33 (rowU c set t.1 cs), (0 : Int32)) ⟨cs, rfl, Or.inl rfl, fun _ => rfl, fun u hu => ⟨(hb u hu).1, Nat.le_refl _⟩, fun u v hu hv hne hfr hc => by omega⟩
  refine ⟨s'.2, cc', ?_, e3, e4, e6.1, fun u v hu hv hne hfr => e6.2 u v hu hv hne hfr (Or.inl hv)⟩
  refine Eq.trans e7 ?_
  show fX4_priceByShifting_24_k k4 (nI set) (nI r) s'.1 s'.2 (nI t.1) = _
  unfold fX4_priceByShifting_24_k
  rw [e2, nI_1]
theorem rowU_congr {c0 : Nat → Int32} {set m : Nat} {a b : Nat → Nat} (h : ∀ u, u < m → a u = b u) : rowU c0 set m a = rowU c0 set m b := by
  funext j
  unfold rowU
  by_cases c : 5 * set ≤ j ∧ j < 5 * set + m
  · rw [if_pos c, if_pos c, h _ (by omega)]
  · rw [if_neg c, if_neg c]
theorem shiftX {σ : St} {d : SD} {t : TD} {wn : Nat → Nat} (h : CX σ d t wn) {set : Nat} (hset : set < 2 ^ d.1) {c : Nat → Int32} {b D : Nat → Nat} (hF : FixOK (freeD t set) t.2.2.1 t.1 b D) (hb : ∀ u, u < t.1 → b u ≤ 1000000) : fX4_priceByShifting (saf σ 33 (rowU c set t.1 b)) (nI set) = some (saf σ 33 (rowU c set t.1 D)) := by
  obtain ⟨hX, hT, l1, l2, hW, hwn, l3, l4⟩ := id h
  have hm : t.1 ≤ 5 := hT.1
  have e1 : gi σ 12 = nI t.1 := hT.2.1
  have hP : ∀ s u, s < t.1 → u < t.1 → 1 ≤ t.2.2.1 s u := fun s u hs hu => (hT.2.2.2.1 s u (by omega) (by omega)).1
  have key : ∀ (q r f : Nat) (cc : Nat → Nat) (fl : Int32), r + q = t.1 → q < f → (∀ u, u < t.1 → D u ≤ cc u ∧ cc u ≤ b u) → (fl = 0 → ∀ u, u < t.1 → cc u = D u) → (∀ u, u < t.1 → rkN D t.1 u < r → cc u = D u) → fX4_priceByShifting_4 (fX4_priceByShifting_4_k (nI set)) (nI set) f (saf σ 33 (rowU c set t.1 cc)) fl (nI r) = some (saf σ 33 (rowU c set t.1 D)) := by
    intro q
    induction q with
    | zero =>
      intro r f cc fl hr hf h1 h2 h3
      cases f with
      | zero => omega
      | succ f =>
        have : r = t.1 := by omega
        subst this
        have hcc : rowU c set t.1 cc = rowU c set t.1 D := rowU_congr (fun u hu => h3 u hu (rk_m hu))
        rw [hcc, fX4_priceByShifting_4, show gi (saf σ 33 (rowU c set t.1 D)) 12 = nI t.1 from e1, if_pos (nI_le (Nat.le_refl _) (by omega)), ite_self]
        rfl
    | succ q ih =>
      intro r f cc fl hr hf h1 h2 h3
      cases f with
      | zero => omega
      | succ f =>
        rw [fX4_priceByShifting_4]
        by_cases h0 : fl = 0
        · rw [if_pos h0, rowU_congr (h2 h0)]
          rfl
        · rw [if_neg h0, show gi (saf σ 33 (rowU c set t.1 cc)) 12 = nI t.1 from e1, if_neg (nI_ge (show r < t.1 by omega) (by omega))]
          obtain ⟨f2, cc2, r1, r2, r3, r4⟩ := roundX h hset (c := c) (cs := cc) hF.2.1 (fun u hu => ⟨(h1 u hu).1, Nat.le_trans (h1 u hu).2 (hb u hu)⟩) (fun σ4' v2_4' v3_4' => fX4_priceByShifting_4 (fX4_priceByShifting_4_k (nI set)) (nI set) f σ4' v2_4' v3_4') r
          rw [r1]
          refine ih (r + 1) f cc2 f2 (by omega) (by omega) (fun u hu => ⟨(r4.1 u hu).1, Nat.le_trans (r4.1 u hu).2 (h1 u hu).2⟩) (fun q0 u hu => ?_) (rd_rank hP hF (fun u hu => (h1 u hu).2) r4 h3)
          have e := r3 q0
          subst e
          have hle := fix_le hP hF.2.2 (fun u hu => (h1 u hu).2) (fun a v ha hv hne hfr => r4.2 a v ha hv hne hfr) _ u hu (Nat.le_refl _)
          have := (h1 u hu).1
          omega
  unfold fX4_priceByShifting
  exact key t.1 0 KF b 1 (by omega) (by have := KF_ge; omega) (fun u hu => ⟨hF.1 u hu, Nat.le_refl _⟩) (fun q => absurd q (by decide)) (fun u hu q => by omega)
