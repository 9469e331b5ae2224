/-! the reference's plan -/
theorem dw_p {k : Nat} (h : 0 < k) : dwN k = nI (k - 1) := by
  cases k with
  | zero => omega
  | succ k => rfl
theorem si_si (σ : St) (k : Nat) (a b : Int32) : si (si σ k a) k b = si σ k b := by
  simp only [si]
  refine Prod.ext (funext fun j => ?_) rfl
  show (if j = k then b else if j = k then a else σ.1 j) = if j = k then b else σ.1 j
  by_cases h : j = k <;> simp [h]
theorem si_self {σ : St} {k : Nat} {v : Int32} (h : gi σ k = v) : si σ k v = σ := by
  subst h
  simp only [si, gi]
  refine Prod.ext (funext fun j => ?_) rfl
  show (if j = k then σ.1 k else σ.1 j) = σ.1 j
  by_cases h : j = k <;> simp [h]
theorem saf_saf (σ : St) (k : Nat) (f g : Nat → Int32) : saf (saf σ k f) k g = saf σ k g := by
  simp only [saf]
  refine Prod.ext rfl (Prod.ext rfl (Prod.ext (funext fun j => ?_) rfl))
  show (if j = k then g else if j = k then f else σ.2.2.1 j) = if j = k then g else σ.2.2.1 j
  by_cases h : j = k <;> simp [h]
/-- an act is written -/
def wrA (σ : St) (k m : Nat) (a : Nat → Int32) (j : Nat) : St := si (saf σ k a) m (nI j)
theorem wrA_s (σ : St) (k m : Nat) (a : Nat → Int32) (j : Nat) (v : Int32) : si (sa (wrA σ k m a j) k j v) m (nI (j + 1)) = wrA σ k m (upd a j v) (j + 1) := by
  unfold wrA
  rw [show sa (si (saf σ k a) m (nI j)) k j v = si (saf (saf σ k a) k (upd (ga (si (saf σ k a) m (nI j)) k) j v)) m (nI j) from rfl, saf_saf, si_si, show ga (si (saf σ k a) m (nI j)) k = a from if_pos rfl]
theorem downM {τ : St} {d : SD} {t : TD} (hM : StM τ d) (hT : TM τ d.1 t) (K : St → Int32 → Option St) : ∀ (k f : Nat) (c : Nat → Int32) (D : Nat → Nat → Nat), k < f → k ≤ 2 ^ d.1 → (∀ set s, k ≤ set → set < 2 ^ d.1 → s < t.1 → c (5 * set + s) = nI (D set s)) → (∀ set s, D set s ≤ 1000000) → (∀ s, s < t.1 → k ≤ 2 ^ d.1 - 1 → D (2 ^ d.1 - 1) s = 0) → (∀ set, k ≤ set → set < 2 ^ d.1 - 1 → FixOK (freeD t set) t.2.2.1 t.1 (baseD d t D set) (D set)) → (∀ set s, 2 ^ d.1 ≤ set ∨ t.1 ≤ s → D set s = 0) → ∃ c' D', fX10_findPlan_42 K (nI (2 ^ d.1 - 1)) f (saf τ 18 c) (dwN k) = K (saf τ 18 c') (-1) ∧ CostOK d t D' ∧ ∀ set s, set < 2 ^ d.1 → s < t.1 → c' (5 * set + s) = nI (D' set s) := by
  have hn : d.1 ≤ 14 := hM.1
  have hp : 2 ^ d.1 ≤ 2 ^ 14 := Nat.pow_le_pow_right (by decide) hn
  have hm : t.1 ≤ 5 := hT.1
  have hp0 := pow_pos' d.1
  intro k
  induction k with
  | zero =>
    intro f c D hf hk h1 h2 h3 h4 h5
    cases f with
    | zero => omega
    | succ f =>
      refine ⟨c, D, ?_, ⟨fun s hs => h3 s hs (by omega), fun set hs => h4 set (by omega) hs, h5⟩, fun set s a b => h1 set s (by omega) a b⟩
      rw [fX10_findPlan_42, if_pos (show dwN 0 < 0 by decide)]
      rfl
  | succ k ih =>
    intro f c D hf hk h1 h2 h3 h4 h5
    cases f with
    | zero => omega
    | succ f =>
      have habv : AbvOK d t D k c := fun set' s a b e => ⟨h1 set' s (by omega) b e, h2 set' s⟩
      obtain ⟨cN, q1, q2⟩ := costsM hM hT (show k < 2 ^ d.1 by omega) habv
      rw [fX10_findPlan_42, show dwN (k + 1) = nI k from rfl, if_neg (nI_pos (by omega)), q1]
      simp only [obS]
      rw [dw_a (by omega)]
      have hD' : ∀ set s, set ≠ k → (if set = k ∧ s < t.1 then cN s else D set s) = D set s := fun set s hne => if_neg (fun q => hne q.1)
      have hDk : ∀ s, s < t.1 → (if k = k ∧ s < t.1 then cN s else D k s) = cN s := fun s hs => if_pos ⟨rfl, hs⟩
      have hb : ∀ set s, k ≤ set → set < 2 ^ d.1 → baseD d t D set s = baseD d t (fun set s => if set = k ∧ s < t.1 then cN s else D set s) set s := fun set s hge hlt => base_congr hlt (fun set' a b => (hD' set' s (by omega)).symm)
      refine ih f _ (fun set s => if set = k ∧ s < t.1 then cN s else D set s) (by omega) (by omega) (fun set s a b e => ?_) (fun set s => ?_) (fun s hs hle => ?_) (fun set a b => ?_) (fun set s hh => ?_)
      · by_cases ek : set = k
        · subst ek
          rw [rowU_in e, hDk s e]
        · rw [rowU_out (by omega), hD' set s ek]
          exact h1 set s (by omega) b e
      · show (if set = k ∧ s < t.1 then cN s else D set s) ≤ 1000000
        by_cases c : set = k ∧ s < t.1
        · rw [if_pos c]; exact Nat.le_trans (q2.1 s c.2) stD_le
        · rw [if_neg c]; exact h2 set s
      · show (if 2 ^ d.1 - 1 = k ∧ s < t.1 then cN s else D (2 ^ d.1 - 1) s) = 0
        by_cases ek : 2 ^ d.1 - 1 = k
        · rw [if_pos ⟨ek, hs⟩]
          have := q2.1 s hs
          rw [show stD d t D k s = 0 from if_pos ek.symm] at this
          omega
        · rw [if_neg (fun q => ek q.1)]
          exact h3 s hs (by omega)
      · by_cases ek : set = k
        · subst ek
          refine fix_congr (fun s hs => ?_) (fun s hs => (hDk s hs).symm) q2
          rw [show stD d t D set s = baseD d t D set s from if_neg (by omega)]
          exact hb set s (Nat.le_refl _) (by omega)
        · exact fix_congr (fun s hs => hb set s a (by omega)) (fun s hs => (hD' set s ek).symm) (h4 set (by omega) b)
      · show (if set = k ∧ s < t.1 then cN s else D set s) = 0
        rw [if_neg (by omega)]
        exact h5 set s hh
theorem actM {τ : St} {d : SD} {t : TD} {D : Nat → Nat → Nat} (hM : StM τ d) (hT : TM τ d.1 t) (hC : CostOK d t D) (hc : ∀ set s, set < 2 ^ d.1 → s < t.1 → ga τ 18 (5 * set + s) = nI (D set s)) {set s : Nat} (h1 : set < 2 ^ d.1) (h2 : s < t.1) (h3 : D set s < 1000000) (hne : set ≠ 2 ^ d.1 - 1) : fX10_actAt τ (nI set) (nI s) = some (nI (actD d t D set s)) := by
  have hn : d.1 ≤ 14 := hM.1
  have hm : t.1 ≤ 5 := hT.1
  have e1 : gi τ 9 = nI d.1 := hM.2.2.1
  have hp : 2 ^ d.1 ≤ 2 ^ 14 := Nat.pow_le_pow_right (by decide) hn
  have hle := cost_le hC
  unfold fX10_actAt
  rw [ix5, if_pos (inx (show 5 * set + s < 81920 by omega) (by decide)), nI_clamp (by omega), hc set s h1 h2]
  have skip : ∀ n k, k < fstN (layB d t D set s) d.1 → fX10_actAt_14 (fX10_actAt_14_k τ (nI set) (nI s) (nI (D set s))) τ (nI set) (nI s) (nI (D set s)) (n + 1) (nI k) = fX10_actAt_14 (fX10_actAt_14_k τ (nI set) (nI s) (nI (D set s))) τ (nI set) (nI s) (nI (D set s)) n (nI (k + 1)) := fun n k hk => by
    have hkn : k < d.1 := by have := fst_le (p := layB d t D set s) d.1; omega
    have hl := (fst_at (p := layB d t D set s) d.1).2 k hk
    have hor := or_lt h1 hkn
    rw [fX10_actAt_14, e1, if_neg (nI_ge hkn (by omega)), hT.2.2.2.2 s k h2 hkn, mayM hM h1 hkn, pow_eq (by omega), nI_or, ix5, nI_clamp (by omega), nI_1]
    simp only [obS, i01B_0]
    unfold layB at hl
    cases hr : t.2.2.2 s k
    · rw [if_pos rfl]
    · rw [if_neg (show ¬ (true = false) by decide)]
      cases hy : mayD d set k
      · rw [if_pos rfl]
      · rw [if_neg (show ¬ (true = false) by decide), if_pos (inx' (show 5 * (set ||| 2 ^ k) + s < 81920 by omega) (by decide)), hc _ s hor h2]
        rw [hr, hy, Bool.true_and, Bool.true_and, decide_eq_false_iff_not] at hl
        have := hle (set ||| 2 ^ k) s
        rw [if_neg (fun e => hl (nI_inj (by omega) (by omega) e))]
  rcases act_ok hC h1 hne h2 h3 with ⟨a1, a2, a3⟩ | ⟨a1, a2, a3, a4⟩
  · refine until0 (fun n k => fX10_actAt_14 (fX10_actAt_14_k τ (nI set) (nI s) (nI (D set s))) τ (nI set) (nI s) (nI (D set s)) n (nI k)) _ (fstN (layB d t D set s) d.1) (by omega) (fun n => ?_) skip
    rw [a2] at a3 ⊢
    generalize fstN (layB d t D set s) d.1 = w at *
    have hor := or_lt h1 a1
    unfold layB at a3
    rw [Bool.and_eq_true, Bool.and_eq_true, decide_eq_true_iff] at a3
    obtain ⟨b1, b2, b3⟩ := a3
    show fX10_actAt_14 (fX10_actAt_14_k τ (nI set) (nI s) (nI (D set s))) τ (nI set) (nI s) (nI (D set s)) (n + 1) (nI w) = _
    rw [fX10_actAt_14, e1, if_neg (nI_ge a1 (by omega)), hT.2.2.2.2 s w h2 a1, mayM hM h1 a1, pow_eq (by omega), nI_or, ix5, nI_clamp (by omega), nI_1, b1, b2]
    simp only [obS, i01B_0]
    rw [if_neg (show ¬ (true = false) by decide), if_neg (show ¬ (true = false) by decide), if_pos (inx' (show 5 * (set ||| 2 ^ w) + s < 81920 by omega) (by decide)), hc _ s hor h2, if_pos (by rw [b3])]
  · have hw : fstN (layB d t D set s) d.1 = d.1 := by have := fst_le (p := layB d t D set s) d.1; omega
    refine until0 (fun n k => fX10_actAt_14 (fX10_actAt_14_k τ (nI set) (nI s) (nI (D set s))) τ (nI set) (nI s) (nI (D set s)) n (nI k)) _ (fstN (layB d t D set s) d.1) (by omega) (fun n => ?_) skip
    rw [hw, a2]
    show fX10_actAt_14 (fX10_actAt_14_k τ (nI set) (nI s) (nI (D set s))) τ (nI set) (nI s) (nI (D set s)) (n + 1) (nI d.1) = _
    rw [fX10_actAt_14, e1, if_pos (nI_le (Nat.le_refl _) (by omega))]
    unfold fX10_actAt_14_k
    refine until0 (fun n k => fX10_actAt_74 (fX10_actAt_74_k τ (nI set) (nI s) (nI (D set s))) τ (nI set) (nI s) (nI (D set s)) n (nI k)) _ (fstN (goB t D set s) t.1) (by omega) (fun n => ?_) (fun n k hk => ?_)
    · generalize fstN (goB t D set s) t.1 = w at *
      unfold goB at a4
      rw [Bool.and_eq_true, Bool.and_eq_true, decide_eq_true_iff, decide_eq_true_iff] at a4
      obtain ⟨b1, b2, b3⟩ := a4
      show fX10_actAt_74 (fX10_actAt_74_k τ (nI set) (nI s) (nI (D set s))) τ (nI set) (nI s) (nI (D set s)) (n + 1) (nI w) = _
      rw [fX10_actAt_74, if_neg (fun e => b1 (nI_inj (by omega) (by omega) e)), freeM hT a3, b2, ix5, ix5, nI_clamp (show 5 * s + w < 2 ^ 31 by omega), nI_clamp (show 5 * set + w < 2 ^ 31 by omega)]
      simp only [obS, i01B_0]
      rw [if_neg (show ¬ (true = false) by decide), if_pos (inx' (show 5 * s + w < 25 by omega) (by decide)), if_pos (inx' (show 5 * set + w < 81920 by omega) (by decide)), (hT.2.2.2.1 s w (by omega) (by omega)).2.2, hc set w h1 a3, nI_add, if_pos (by rw [b3])]
      unfold fX10_actAt_74_k
      rw [show (100 : Int32) = nI 100 from rfl, nI_add]
    · have hkm : k < t.1 := by omega
      have hl := (fst_at (p := goB t D set s) t.1).2 k hk
      show fX10_actAt_74 (fX10_actAt_74_k τ (nI set) (nI s) (nI (D set s))) τ (nI set) (nI s) (nI (D set s)) (n + 1) (nI k) = fX10_actAt_74 (fX10_actAt_74_k τ (nI set) (nI s) (nI (D set s))) τ (nI set) (nI s) (nI (D set s)) n (nI (k + 1))
      rw [fX10_actAt_74, freeM hT hkm, ix5, ix5, nI_clamp (show 5 * s + k < 2 ^ 31 by omega), nI_clamp (show 5 * set + k < 2 ^ 31 by omega), nI_1]
      unfold goB at hl
      by_cases e : k = s
      · rw [if_pos (by rw [e])]
      · rw [if_neg (fun q => e (nI_inj (by omega) (by omega) q))]
        simp only [obS, i01B_0]
        cases hf : freeD t set k
        · rw [if_pos rfl]
        · rw [hf, decide_eq_true e, Bool.true_and, Bool.true_and, decide_eq_false_iff_not] at hl
          have h5 := hle set k
          obtain ⟨p1, p2, p3⟩ := hT.2.2.2.1 s k (by omega) (by omega)
          rw [if_neg (show ¬ (true = false) by decide), if_pos (inx' (show 5 * s + k < 25 by omega) (by decide)), if_pos (inx' (show 5 * set + k < 81920 by omega) (by decide)), p3, hc set k h1 hkm, nI_add, if_neg (fun q => hl (nI_inj (by omega) (by omega) q))]
theorem nI_100 (u : Nat) : nI (100 + u) - (100 : Int32) = nI u := by
  rw [← nI_add, show nI 100 = (100 : Int32) from rfl, Int32.add_comm, Int32.add_sub_cancel]
theorem traceM {τ : St} {d : SD} {t : TD} {D : Nat → Nat → Nat} (hM : StM τ d) (hT : TM τ d.1 t) (hC : CostOK d t D) (hc : ∀ set s, set < 2 ^ d.1 → s < t.1 → ga τ 18 (5 * set + s) = nI (D set s)) {kn : Nat} (hk : TrcOK d t D kn) (hpos : ∀ j, j ≤ kn → PosOK d t D (posD d t D j)) : ∀ (r j f : Nat) (a : Nat → Int32), j + r = kn → r < f → (∀ i, i < j → a i = nI (actN d t D i)) → ∃ a', fX10_findPlan_84 (fX10_findPlan_84_k (nI (2 ^ d.1 - 1))) (nI (2 ^ d.1 - 1)) f (wrA τ 19 15 a j) (nI (posD d t D j).1) (nI (posD d t D j).2) = some (wrA τ 19 15 a' kn) ∧ ∀ i, i < kn → a' i = nI (actN d t D i) := by
  have hn : d.1 ≤ 14 := hM.1
  have hm : t.1 ≤ 5 := hT.1
  have hp : 2 ^ d.1 ≤ 2 ^ 14 := Nat.pow_le_pow_right (by decide) hn
  have h70 := hk.1
  intro r
  induction r with
  | zero =>
    intro j f a hj hf ha
    cases f with
    | zero => omega
    | succ f =>
      have : j = kn := by omega
      subst this
      refine ⟨a, ?_, ha⟩
      rw [fX10_findPlan_84, if_pos (by rw [hk.2.1])]
      rfl
  | succ r ih =>
    intro j f a hj hf ha
    cases f with
    | zero => omega
    | succ f =>
      obtain ⟨p1, p2, p3⟩ := hpos j (by omega)
      have hne := hk.2.2 j (by omega)
      have hact := actM (τ := wrA τ 19 15 a j) (d := d) (t := t) hM hT hC hc p1 p2 p3 hne
      have hok := act_ok hC p1 hne p2 p3
      rw [fX10_findPlan_84, if_neg (fun e => hne (nI_inj (by omega) (by omega) e)), hact]
      simp only [obS]
      rw [show gi (wrA τ 19 15 a j) 15 = nI j from rfl, nI_clamp (by omega), show gi (sa (wrA τ 19 15 a j) 19 j (nI (actD d t D (posD d t D j).1 (posD d t D j).2))) 15 = nI j from rfl, nI_1, wrA_s, if_pos (inx' (show j < 84 by omega) (by decide))]
      have ha' : ∀ i, i < j + 1 → upd a j (nI (actD d t D (posD d t D j).1 (posD d t D j).2)) i = nI (actN d t D i) := fun i hi => by
        by_cases e : i = j
        · subst e; exact pk_us
        · rw [pk_un e]; exact ha i (by omega)
      have hnx := ih (j + 1) f _ (by omega) (by omega) ha'
      rw [posD] at hnx
      rcases hok with ⟨a1, a2, a3⟩ | ⟨a1, a2, a3, a4⟩
      · have hlt : actD d t D (posD d t D j).1 (posD d t D j).2 < d.1 := by rw [a2]; exact a1
        rw [if_pos (show actD d t D (posD d t D j).1 (posD d t D j).2 < 100 by omega)] at hnx
        rw [if_neg (show ¬ (100 : Int32) ≤ nI (actD d t D (posD d t D j).1 (posD d t D j).2) from nI_ge (b := 100) (by omega) (by decide)), if_neg (show ¬ (100 : Int32) ≤ nI (actD d t D (posD d t D j).1 (posD d t D j).2) from nI_ge (b := 100) (by omega) (by decide)), pow_eq (by omega), nI_or]
        exact hnx
      · rw [if_neg (show ¬ actD d t D (posD d t D j).1 (posD d t D j).2 < 100 by omega)] at hnx
        rw [if_pos (show (100 : Int32) ≤ nI (actD d t D (posD d t D j).1 (posD d t D j).2) from nI_le (a := 100) (by omega) (by omega)), if_pos (show (100 : Int32) ≤ nI (actD d t D (posD d t D j).1 (posD d t D j).2) from nI_le (a := 100) (by omega) (by omega))]
        rw [show nI (actD d t D (posD d t D j).1 (posD d t D j).2) - (100 : Int32) = nI (actD d t D (posD d t D j).1 (posD d t D j).2 - 100) by rw [a2, nI_100]; congr 1; omega]
        exact hnx
/-- the reference finds its plan, or has it -/
theorem planM {σ τ : St} (h : Rel σ τ) : ∃ τ', fX10_findPlan τ = some τ' ∧ Rel σ τ' ∧ gi τ' 14 = 1 := by
  obtain ⟨hA, ⟨hs, hk, ht, hcal⟩, hw, hp, ⟨hm1, hm2⟩, hz, hl⟩ := id h
  obtain ⟨x1, x2, x3⟩ := st_get hs hk
  obtain ⟨y1, y2, y3⟩ := td_get hs ht
  rcases hm1 with q | q
  · have mk : ∀ (c a : Nat → Int32) (k p : Int32), PlanMOK (sdX σ) (tdX σ) p k a → ∃ τ', some (si (saf (si (saf (si (si (si τ 14 1) 15 0) 16 (-1)) 18 c) 16 p) 19 a) 15 k) = some τ' ∧ Rel σ τ' ∧ gi τ' 14 = 1 := fun c a k p hpl => by
      refine ⟨_, rfl, ⟨hA, ⟨hs, hk, ht, hcal⟩, hw, hp, ⟨Or.inr rfl, fun _ => ?_⟩, hz, hl⟩, rfl⟩
      rw [← x3, ← y3] at hpl
      exact hpl
    generalize hd : sdX σ = d at *
    generalize htd : tdX σ = t at *
    have hn : d.1 ≤ 14 := x2.1
    have hm : t.1 ≤ 5 := y2.1
    have hpw : 2 ^ d.1 ≤ 2 ^ 14 := Nat.pow_le_pow_right (by decide) hn
    have hp0 := pow_pos' d.1
    have hP : ∀ s u, s < t.1 → u < t.1 → 1 ≤ t.2.2.1 s u := fun s u hs hu => (y2.2.2.2.1 s u (by omega) (by omega)).1
    unfold fX10_findPlan
    rw [if_pos q, show gi (si (si (si τ 14 1) 15 0) 16 (-1)) 11 = nI t.1 from y2.2.1, show gi (si (si (si τ 14 1) 15 0) 16 (-1)) 9 = nI d.1 from x2.2.2.1, all_eq (by omega)]
    by_cases h0 : t.1 = 0
    · rw [if_pos (show nI t.1 = 0 by rw [h0]; rfl)]
      obtain ⟨τ', r1, r2, r3⟩ := mk (ga τ 18) (ga τ 19) 0 (-1) (Or.inl ⟨h0, rfl, rfl⟩)
      refine ⟨τ', ?_, r2, r3⟩
      rw [← r1]
      congr 1
      rw [show saf (si (si (si τ 14 1) 15 0) 16 (-1)) 18 (ga τ 18) = si (si (si τ 14 1) 15 0) 16 (-1) from saf_self (si (si (si τ 14 1) 15 0) 16 (-1)) 18, si_si, show saf (si (si (si τ 14 1) 15 0) 16 (-1)) 19 (ga τ 19) = si (si (si τ 14 1) 15 0) 16 (-1) from saf_self (si (si (si τ 14 1) 15 0) 16 (-1)) 19, si_self (show gi (si (si (si τ 14 1) 15 0) 16 (-1)) 15 = 0 from rfl)]
    · rw [if_neg (show ¬ nI t.1 = 0 from fun e => h0 (nI_inj (by omega) (by decide) (show nI t.1 = nI 0 from e)))]
      have x2' : StM (si (si (si τ 14 1) 15 0) 16 (-1)) d := x2
      have y2' : TM (si (si (si τ 14 1) 15 0) 16 (-1)) d.1 t := y2
      obtain ⟨c', D', q1, q2, q3⟩ := downM x2' y2' (fX10_findPlan_42_k (nI (2 ^ d.1 - 1))) (2 ^ d.1) KF (ga τ 18) (fun _ _ => 0) (by have := KF_ge; omega) (Nat.le_refl _) (fun set s a b => by omega) (fun _ _ => Nat.zero_le _) (fun _ _ _ => rfl) (fun set a b => by omega) (fun _ _ _ => rfl)
      rw [show saf (si (si (si τ 14 1) 15 0) 16 (-1)) 18 (ga τ 18) = si (si (si τ 14 1) 15 0) 16 (-1) from saf_self (si (si (si τ 14 1) 15 0) 16 (-1)) 18, dw_p hp0] at q1
      rw [q1]
      unfold fX10_findPlan_42_k
      have hle := cost_le q2 0 0
      rw [if_pos (show ¬ ((0 : Int32) < 0 ∨ 81920 ≤ (0 : Int32).toNatClampNeg) by decide), show ga (saf (si (si (si τ 14 1) 15 0) 16 (-1)) 18 c') 18 (0 : Int32).toNatClampNeg = nI (D' 0 0) from q3 0 0 hp0 (by omega)]
      by_cases hF : D' 0 0 < 1000000
      · rw [if_pos (show nI (D' 0 0) < (1000000 : Int32) from nI_lt (b := 1000000) hF (by decide)), if_pos (show ¬ ((0 : Int32) < 0 ∨ 81920 ≤ (0 : Int32).toNatClampNeg) by decide)]
        obtain ⟨kn, k1, k2⟩ := trc_ex hn hm (by omega) hP q2 hF
        have x3' : StM (si (saf (si (si (si τ 14 1) 15 0) 16 (-1)) 18 c') 16 (nI (D' 0 0))) d := x2
        have y3' : TM (si (saf (si (si (si τ 14 1) 15 0) 16 (-1)) 18 c') 16 (nI (D' 0 0))) d.1 t := y2
        have h70 := k1.1
        obtain ⟨a', a1, a2⟩ := traceM x3' y3' q2 q3 k1 k2 kn 0 KF (ga τ 19) (by omega) (by have := KF_ge; omega) (fun i hi => by omega)
        have e0 : wrA (si (saf (si (si (si τ 14 1) 15 0) 16 (-1)) 18 c') 16 (nI (D' 0 0))) 19 15 (ga τ 19) 0 = si (saf (si (si (si τ 14 1) 15 0) 16 (-1)) 18 c') 16 (nI (D' 0 0)) := by
          unfold wrA
          rw [show saf (si (saf (si (si (si τ 14 1) 15 0) 16 (-1)) 18 c') 16 (nI (D' 0 0))) 19 (ga τ 19) = si (saf (si (si (si τ 14 1) 15 0) 16 (-1)) 18 c') 16 (nI (D' 0 0)) from saf_self (si (saf (si (si (si τ 14 1) 15 0) 16 (-1)) 18 c') 16 (nI (D' 0 0))) 19]
          exact si_self rfl
        rw [e0] at a1
        obtain ⟨τ', r1, r2, r3⟩ := mk c' a' (nI kn) (nI (D' 0 0)) (Or.inr ⟨h0, D', q2, Or.inr ⟨hF, rfl, kn, k1, rfl, a2⟩⟩)
        exact ⟨τ', Eq.trans a1 r1, r2, r3⟩
      · rw [if_neg (show ¬ nI (D' 0 0) < (1000000 : Int32) from nI_nlt (b := 1000000) (by omega) (by omega))]
        obtain ⟨τ', r1, r2, r3⟩ := mk c' (ga τ 19) 0 (-1) (Or.inr ⟨h0, D', q2, Or.inl ⟨by omega, rfl, rfl⟩⟩)
        refine ⟨τ', ?_, r2, r3⟩
        rw [← r1]
        congr 1
        rw [si_self (show gi (saf (si (si (si τ 14 1) 15 0) 16 (-1)) 18 c') 16 = -1 from rfl), show saf (saf (si (si (si τ 14 1) 15 0) 16 (-1)) 18 c') 19 (ga τ 19) = saf (si (si (si τ 14 1) 15 0) 16 (-1)) 18 c' from saf_self (saf (si (si (si τ 14 1) 15 0) 16 (-1)) 18 c') 19, si_self (show gi (saf (si (si (si τ 14 1) 15 0) 16 (-1)) 18 c') 15 = 0 from rfl)]
  · refine ⟨τ, ?_, h, q⟩
    unfold fX10_findPlan
    rw [if_neg (by rw [q]; decide)]
