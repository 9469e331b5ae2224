/-! least prices: they are, and are but one -/
theorem sg_upd {c : Nat → Nat} {s x : Nat} : ∀ n, (s < n → sgN (fun u => if u = s then x else c u) n + c s = sgN c n + x) ∧ (n ≤ s → sgN (fun u => if u = s then x else c u) n = sgN c n)
  | 0 => ⟨fun q => by omega, fun _ => rfl⟩
  | n + 1 => by
    obtain ⟨h1, h2⟩ := sg_upd (c := c) (s := s) (x := x) n
    rw [sgN, sgN]
    constructor
    · intro q
      by_cases e : s = n
      · subst e
        rw [h2 (Nat.le_refl _), if_pos rfl]
        omega
      · have := h1 (by omega)
        rw [if_neg (by omega)]
        omega
    · intro q
      rw [h2 (by omega), if_neg (by omega)]
theorem sg_lt {f g : Nat → Nat} {t : Nat} (ht : f t < g t) : ∀ n, (∀ j, j < n → f j ≤ g j) → (t < n → sgN f n < sgN g n) ∧ sgN f n ≤ sgN g n
  | 0, _ => ⟨fun q => by omega, Nat.le_refl _⟩
  | n + 1, h => by
    obtain ⟨h1, h2⟩ := sg_lt (f := f) (g := g) ht n (fun j hj => h j (by omega))
    have h3 := h n (by omega)
    rw [sgN, sgN]
    refine ⟨fun q => ?_, by omega⟩
    by_cases e : t = n
    · subst e; omega
    · have := h1 (by omega); omega
theorem ex_fix {fr : Nat → Bool} {P : Nat → Nat → Nat} {m : Nat} {b : Nat → Nat} : ∀ (v : Nat) (c : Nat → Nat), sgN c m ≤ v → (∀ s, s < m → c s ≤ b s) → (∀ s, s < m → c s = b s ∨ ∃ t, t < m ∧ t ≠ s ∧ fr t = true ∧ P s t + c t ≤ c s) → ∃ c', FixOK fr P m b c' := by
  intro v
  induction v with
  | zero =>
    intro c hv h1 h2
    refine ⟨c, h1, fun s t hs _ _ _ => ?_, h2⟩
    have := sg_ge (f := c) m hs
    omega
  | succ v ih =>
    intro c hv h1 h2
    by_cases hF : ∀ s t, s < m → t < m → t ≠ s → fr t = true → c s ≤ P s t + c t
    · exact ⟨c, h1, hF, h2⟩
    · have : ∃ s t, s < m ∧ t < m ∧ t ≠ s ∧ fr t = true ∧ P s t + c t < c s := by
        refine Classical.byContradiction fun q => hF fun s t a b e f => ?_
        refine Classical.byContradiction fun w => q ⟨s, t, a, b, e, f, by omega⟩
      obtain ⟨s, t, hs, ht, hne, hfr, hlt⟩ := this
      have hsum := (sg_upd (c := c) (s := s) (x := P s t + c t) m).1 hs
      have hle : ∀ u, (if u = s then P s t + c t else c u) ≤ c u := fun u => by
        by_cases e : u = s
        · subst e; rw [if_pos rfl]; omega
        · rw [if_neg e]; exact Nat.le_refl _
      refine ih (fun u => if u = s then P s t + c t else c u) (by omega) (fun u hu => Nat.le_trans (hle u) (h1 u hu)) (fun u hu => ?_)
      by_cases e : u = s
      · subst e
        refine Or.inr ⟨t, ht, hne, hfr, ?_⟩
        show P u t + (if t = u then P u t + c t else c t) ≤ if u = u then P u t + c t else c u
        rw [if_pos rfl, if_neg hne]
        exact Nat.le_refl _
      · show (if u = s then P s t + c t else c u) = b u ∨ ∃ t', t' < m ∧ t' ≠ u ∧ fr t' = true ∧ P u t' + (if t' = s then P s t + c t else c t') ≤ if u = s then P s t + c t else c u
        rw [if_neg e]
        rcases h2 u hu with q | ⟨t', a, b', c', d'⟩
        · exact Or.inl q
        · have := hle t'
          exact Or.inr ⟨t', a, b', c', by omega⟩
theorem fix_le {fr : Nat → Bool} {P : Nat → Nat → Nat} {m : Nat} {b D c : Nat → Nat} (hP : ∀ s t, s < m → t < m → 1 ≤ P s t) (hD : ∀ s, s < m → D s = b s ∨ ∃ t, t < m ∧ t ≠ s ∧ fr t = true ∧ P s t + D t ≤ D s) (hb : ∀ s, s < m → c s ≤ b s) (hF : ∀ s t, s < m → t < m → t ≠ s → fr t = true → c s ≤ P s t + c t) : ∀ (v s : Nat), s < m → D s ≤ v → c s ≤ D s := by
  intro v
  induction v with
  | zero =>
    intro s hs hv
    rcases hD s hs with q | ⟨t, ht, hne, hfr, hle⟩
    · rw [q]; exact hb s hs
    · have := hP s t hs ht; omega
  | succ v ih =>
    intro s hs hv
    rcases hD s hs with q | ⟨t, ht, hne, hfr, hle⟩
    · rw [q]; exact hb s hs
    · have h1 := hP s t hs ht
      have h2 := ih t ht (by omega)
      have h3 := hF s t hs ht hne hfr
      omega
theorem fix_uni {fr : Nat → Bool} {P : Nat → Nat → Nat} {m : Nat} {b c D : Nat → Nat} (hP : ∀ s t, s < m → t < m → 1 ≤ P s t) (h1 : FixOK fr P m b c) (h2 : FixOK fr P m b D) {s : Nat} (hs : s < m) : c s = D s :=
  Nat.le_antisymm (fix_le hP h2.2.2 h1.1 h1.2.1 _ s hs (Nat.le_refl _)) (fix_le hP h1.2.2 h2.1 h2.2.1 _ s hs (Nat.le_refl _))
/-- how many stands are cheaper -/
def rkN (D : Nat → Nat) (m s : Nat) : Nat := sgN (fun u => if D u < D s then 1 else 0) m
theorem rk_lt {D : Nat → Nat} {m s t : Nat} (ht : t < m) (h : D t < D s) : rkN D m t < rkN D m s := by
  unfold rkN
  refine (sg_lt (t := t) ?_ m (fun j _ => ?_)).1 ht
  · show (if D t < D t then 1 else 0) < if D t < D s then 1 else 0
    rw [if_pos h, if_neg (Nat.lt_irrefl _)]
    decide
  · show (if D j < D t then 1 else 0) ≤ if D j < D s then 1 else 0
    by_cases q : D j < D t
    · rw [if_pos q, if_pos (by omega)]; exact Nat.le_refl _
    · rw [if_neg q]; exact Nat.zero_le _
theorem sg_one : ∀ n, sgN (fun _ => 1) n = n
  | 0 => rfl
  | n + 1 => by rw [sgN, sg_one n]
theorem rk_m {D : Nat → Nat} {m s : Nat} (hs : s < m) : rkN D m s < m := by
  have h := (sg_lt (f := fun u => if D u < D s then 1 else 0) (g := fun _ => 1) (t := s) (by show (if D s < D s then 1 else 0) < 1; rw [if_neg (Nat.lt_irrefl _)]; decide) m (fun j _ => by
    show (if D j < D s then 1 else 0) ≤ 1
    by_cases q : D j < D s
    · rw [if_pos q]; exact Nat.le_refl _
    · rw [if_neg q]; exact Nat.zero_le _)).1 hs
  rw [sg_one] at h
  exact h
/-- what a round of shifting does -/
def RdOK (fr : Nat → Bool) (P : Nat → Nat → Nat) (m : Nat) (D c c' : Nat → Nat) : Prop := (∀ s, s < m → D s ≤ c' s ∧ c' s ≤ c s) ∧ ∀ s t, s < m → t < m → t ≠ s → fr t = true → c' s ≤ P s t + c t
theorem rd_rank {fr : Nat → Bool} {P : Nat → Nat → Nat} {m : Nat} {b D c c' : Nat → Nat} (hP : ∀ s t, s < m → t < m → 1 ≤ P s t) (hD : FixOK fr P m b D) (hb : ∀ s, s < m → c s ≤ b s) (hr : RdOK fr P m D c c') {k : Nat} (hk : ∀ s, s < m → rkN D m s < k → c s = D s) : ∀ s, s < m → rkN D m s < k + 1 → c' s = D s := by
  intro s hs hrk
  obtain ⟨r1, r2⟩ := hr.1 s hs
  rcases hD.2.2 s hs with q | ⟨t, ht, hne, hfr, hle⟩
  · have := hb s hs; omega
  · have h1 := hP s t hs ht
    have h2 := rk_lt (m := m) ht (show D t < D s by omega)
    have h3 := hk t ht (by omega)
    have h4 := hr.2 s t hs ht hne hfr
    omega
theorem bs_le {f : Nat → Bool} {v : Nat → Nat} : ∀ k, bsN f v k ≤ 1000000
  | 0 => Nat.le_refl _
  | k + 1 => by
    have := bs_le (f := f) (v := v) k
    rw [bsN]
    by_cases c : f k = true
    · rw [if_pos c]; omega
    · rw [if_neg c]; exact this
theorem bs_at {f : Nat → Bool} {v : Nat → Nat} : ∀ k, bsN f v k < 1000000 → ∃ i, i < k ∧ f i = true ∧ v i = bsN f v k
  | 0, h => by rw [bsN] at h; omega
  | k + 1, h => by
    rw [bsN] at h ⊢
    by_cases c : f k = true
    · rw [if_pos c] at h ⊢
      by_cases q : v k ≤ bsN f v k
      · exact ⟨k, by omega, c, by omega⟩
      · obtain ⟨i, a, b, e⟩ := bs_at (f := f) (v := v) k (by omega)
        exact ⟨i, by omega, b, by omega⟩
    · rw [if_neg c] at h ⊢
      obtain ⟨i, a, b, e⟩ := bs_at k h
      exact ⟨i, by omega, b, e⟩
theorem bs_congr {f : Nat → Bool} {v v' : Nat → Nat} : ∀ k, (∀ i, i < k → f i = true → v i = v' i) → bsN f v k = bsN f v' k
  | 0, _ => rfl
  | k + 1, h => by
    rw [bsN, bsN, bs_congr k (fun i hi => h i (by omega))]
    by_cases c : f k = true
    · rw [if_pos c, if_pos c, h k (by omega) c]
    · rw [if_neg c, if_neg c]
theorem may_gt {d : SD} {set i : Nat} (h : mayD d set i = true) : set < set ||| 2 ^ i := by
  unfold mayD at h
  rw [Bool.and_eq_true] at h
  exact or_gt (bor_t h.1)
theorem base_congr {d : SD} {t : TD} {D D' : Nat → Nat → Nat} {set s : Nat} (hset : set < 2 ^ d.1) (h : ∀ set', set < set' → set' < 2 ^ d.1 → D set' s = D' set' s) : baseD d t D set s = baseD d t D' set s := by
  refine bs_congr d.1 (fun i hi hf => ?_)
  rw [Bool.and_eq_true] at hf
  exact h _ (may_gt hf.2) (or_lt hset hi)
theorem fix_congr {fr : Nat → Bool} {P : Nat → Nat → Nat} {m : Nat} {b b' c c' : Nat → Nat} (hb : ∀ s, s < m → b s = b' s) (hc : ∀ s, s < m → c s = c' s) (h : FixOK fr P m b c) : FixOK fr P m b' c' := by
  refine ⟨fun s hs => ?_, fun s t hs ht hne hfr => ?_, fun s hs => ?_⟩
  · rw [← hb s hs, ← hc s hs]; exact h.1 s hs
  · rw [← hc s hs, ← hc t ht]; exact h.2.1 s t hs ht hne hfr
  · rw [← hb s hs, ← hc s hs]
    rcases h.2.2 s hs with q | ⟨t, a, b2, e, f⟩
    · exact Or.inl q
    · exact Or.inr ⟨t, a, b2, e, by rw [← hc t a]; exact f⟩
theorem cost_uni {d : SD} {t : TD} {D D' : Nat → Nat → Nat} (hP : ∀ s u, s < t.1 → u < t.1 → 1 ≤ t.2.2.1 s u) (h : CostOK d t D) (h' : CostOK d t D') : D = D' := by
  have hp := pow_pos' d.1
  have key : ∀ k set, 2 ^ d.1 - 1 ≤ set + k → set < 2 ^ d.1 → ∀ s, s < t.1 → D set s = D' set s := by
    intro k
    induction k with
    | zero =>
      intro set h1 h2 s hs
      have : set = 2 ^ d.1 - 1 := by omega
      rw [this, h.1 s hs, h'.1 s hs]
    | succ k ih =>
      intro set h1 h2 s hs
      by_cases e : set = 2 ^ d.1 - 1
      · rw [e, h.1 s hs, h'.1 s hs]
      · have hb : ∀ u, u < t.1 → baseD d t D set u = baseD d t D' set u := fun u hu => base_congr h2 (fun set' q1 q2 => ih set' (by omega) q2 u hu)
        exact fix_uni hP (fix_congr hb (fun _ _ => rfl) (h.2.1 set (by omega))) (h'.2.1 set (by omega)) hs
  funext set s
  by_cases c : 2 ^ d.1 ≤ set ∨ t.1 ≤ s
  · rw [h.2.2 set s c, h'.2.2 set s c]
  · exact key (2 ^ d.1) set (by omega) (by omega) s (by omega)
theorem cost_le {d : SD} {t : TD} {D : Nat → Nat → Nat} (h : CostOK d t D) (set s : Nat) : D set s ≤ 1000000 := by
  by_cases c : 2 ^ d.1 ≤ set ∨ t.1 ≤ s
  · rw [h.2.2 set s c]; omega
  · by_cases e : set = 2 ^ d.1 - 1
    · rw [e, h.1 s (by omega)]; omega
    · exact Nat.le_trans ((h.2.1 set (by omega)).1 s (by omega)) (bs_le d.1)
/-! the plan's acts -/
theorem fst_le {p : Nat → Bool} : ∀ k, fstN p k ≤ k
  | 0 => Nat.le_refl _
  | k + 1 => by
    have := fst_le (p := p) k
    rw [fstN]
    by_cases c : fstN p k < k
    · rw [if_pos c]; omega
    · rw [if_neg c]
      by_cases q : p k = true
      · rw [if_pos q]; omega
      · rw [if_neg q]; exact Nat.le_refl _
theorem fst_at {p : Nat → Bool} : ∀ k, (fstN p k < k → p (fstN p k) = true) ∧ ∀ j, j < fstN p k → p j = false
  | 0 => ⟨fun h => by rw [fstN] at h; omega, fun j hj => by rw [fstN] at hj; omega⟩
  | k + 1 => by
    obtain ⟨h1, h2⟩ := fst_at (p := p) k
    rw [fstN]
    by_cases c : fstN p k < k
    · rw [if_pos c]; exact ⟨fun _ => h1 c, h2⟩
    · rw [if_neg c]
      have hk : fstN p k = k := by have := fst_le (p := p) k; omega
      rw [hk] at h2
      by_cases q : p k = true
      · rw [if_pos q]; exact ⟨fun _ => q, h2⟩
      · rw [if_neg q]
        refine ⟨fun w => by omega, fun j hj => ?_⟩
        by_cases e : j = k
        · subst e; exact Bool.eq_false_iff.mpr q
        · exact h2 j (by omega)
theorem fst_ex {p : Nat → Bool} {k i : Nat} (hi : i < k) (hp : p i = true) : fstN p k < k := by
  have h1 := fst_le (p := p) k
  refine Classical.byContradiction fun q => ?_
  have := (fst_at (p := p) k).2 i (by omega)
  rw [hp] at this
  exact absurd this (by decide)
/-- it is the one that is found -/
theorem fst_is {p : Nat → Bool} {k i : Nat} (hi : i < k) (hp : p i = true) (hl : ∀ j, j < i → p j = false) : fstN p k = i := by
  have h1 := fst_ex hi hp
  obtain ⟨h2, h3⟩ := fst_at (p := p) k
  rcases Nat.lt_trichotomy (fstN p k) i with q | q | q
  · have := hl _ q
    rw [h2 h1] at this
    exact absurd this (by decide)
  · exact q
  · have := h3 _ q
    rw [hp] at this
    exact absurd this (by decide)
theorem act_ok {d : SD} {t : TD} {D : Nat → Nat → Nat} (hC : CostOK d t D) {set s : Nat} (h1 : set < 2 ^ d.1) (h2 : set ≠ 2 ^ d.1 - 1) (hs : s < t.1) (hF : D set s < 1000000) : (fstN (layB d t D set s) d.1 < d.1 ∧ actD d t D set s = fstN (layB d t D set s) d.1 ∧ layB d t D set s (actD d t D set s) = true) ∨ (¬ fstN (layB d t D set s) d.1 < d.1 ∧ actD d t D set s = 100 + fstN (goB t D set s) t.1 ∧ fstN (goB t D set s) t.1 < t.1 ∧ goB t D set s (fstN (goB t D set s) t.1) = true) := by
  unfold actD
  by_cases c : fstN (layB d t D set s) d.1 < d.1
  · rw [if_pos c]
    exact Or.inl ⟨c, rfl, (fst_at d.1).1 c⟩
  · rw [if_neg c]
    have hX := hC.2.1 set (by omega)
    have hex : ∃ u, u < t.1 ∧ goB t D set s u = true := by
      rcases hX.2.2 s hs with q | ⟨u, hu, hne, hfr, hle⟩
      · obtain ⟨i, hi, hf, hv⟩ := bs_at d.1 (show baseD d t D set s < 1000000 by omega)
        rw [Bool.and_eq_true] at hf
        refine absurd (fst_ex hi (show layB d t D set s i = true from ?_)) c
        unfold layB
        rw [hf.1, hf.2, Bool.true_and, Bool.true_and, decide_eq_true_iff]
        rw [q]
        exact hv
      · refine ⟨u, hu, ?_⟩
        have := hX.2.1 s u hs hu hne hfr
        unfold goB
        rw [hfr, decide_eq_true hne, Bool.true_and, Bool.true_and, decide_eq_true_iff]
        omega
    obtain ⟨u, hu, hg⟩ := hex
    have := fst_ex hu hg
    exact Or.inr ⟨c, rfl, this, (fst_at t.1).1 this⟩
def potD (d : SD) (t : TD) (D : Nat → Nat → Nat) (p : Nat × Nat) : Nat := if p.1 = 2 ^ d.1 - 1 then 0 else 5 * (d.1 - popN p.1 d.1) + rkN (D p.1) t.1 p.2 - 4
theorem pop_lt {n set : Nat} (h1 : set < 2 ^ n) (h2 : set ≠ 2 ^ n - 1) : popN set n < n := by
  have : ∃ i, i < n ∧ set.testBit i = false := by
    refine Classical.byContradiction fun q => h2 (Nat.eq_of_testBit_eq fun i => ?_)
    rw [all_bit]
    by_cases hi : i < n
    · rw [decide_eq_true hi]
      cases hb : set.testBit i
      · exact absurd ⟨i, hi, hb⟩ q
      · rfl
    · rw [decide_eq_false hi]
      exact test_hi h1 (by omega)
  obtain ⟨i, hi, hb⟩ := this
  have h3 := popN_or hb n
  rw [if_pos hi] at h3
  have := popN_le (set ||| 2 ^ i) n
  omega
def PosOK (d : SD) (t : TD) (D : Nat → Nat → Nat) (p : Nat × Nat) : Prop := p.1 < 2 ^ d.1 ∧ p.2 < t.1 ∧ D p.1 p.2 < 1000000
theorem pos_step {d : SD} {t : TD} {D : Nat → Nat → Nat} (hn : d.1 ≤ 14) (hm : t.1 ≤ 5) (hP : ∀ s u, s < t.1 → u < t.1 → 1 ≤ t.2.2.1 s u) (hC : CostOK d t D) {j : Nat} (h : PosOK d t D (posD d t D j)) (hne : (posD d t D j).1 ≠ 2 ^ d.1 - 1) : PosOK d t D (posD d t D (j + 1)) ∧ potD d t D (posD d t D (j + 1)) + 1 ≤ potD d t D (posD d t D j) := by
  obtain ⟨p1, p2, p3⟩ := h
  have hpl := pop_lt p1 hne
  have hrk := rk_m (D := D (posD d t D j).1) p2
  have hpot : potD d t D (posD d t D j) = 5 * (d.1 - popN (posD d t D j).1 d.1) + rkN (D (posD d t D j).1) t.1 (posD d t D j).2 - 4 := if_neg hne
  rw [hpot]
  rw [posD]
  generalize posD d t D j = p at *
  rcases act_ok hC p1 hne p2 p3 with ⟨a1, a2, a3⟩ | ⟨a1, a2, a3, a4⟩
  · have hlt : actD d t D p.1 p.2 < d.1 := by rw [a2]; exact a1
    rw [if_pos (show actD d t D p.1 p.2 < 100 by omega)]
    generalize actD d t D p.1 p.2 = i at *
    unfold layB at a3
    rw [Bool.and_eq_true, Bool.and_eq_true, decide_eq_true_iff] at a3
    obtain ⟨b1, b2, b3⟩ := a3
    have hor := or_lt p1 hlt
    refine ⟨⟨hor, p2, by show D (p.1 ||| 2 ^ i) p.2 < _; rw [b3]; exact p3⟩, ?_⟩
    have hb : p.1.testBit i = false := by
      unfold mayD at b2
      rw [Bool.and_eq_true] at b2
      exact bor_t b2.1
    have hpo := popN_or hb d.1
    rw [if_pos hlt] at hpo
    have hr2 := rk_m (D := D (p.1 ||| 2 ^ i)) p2
    unfold potD
    by_cases e : (p.1 ||| 2 ^ i) = 2 ^ d.1 - 1
    · rw [if_pos e]; omega
    · have := pop_lt hor e
      rw [if_neg e]
      show 5 * (d.1 - popN (p.1 ||| 2 ^ i) d.1) + rkN (D (p.1 ||| 2 ^ i)) t.1 p.2 - 4 + 1 ≤ _
      omega
  · rw [if_neg (show ¬ actD d t D p.1 p.2 < 100 by omega), a2, show 100 + fstN (goB t D p.1 p.2) t.1 - 100 = fstN (goB t D p.1 p.2) t.1 by omega]
    generalize fstN (goB t D p.1 p.2) t.1 = u at *
    unfold goB at a4
    rw [Bool.and_eq_true, Bool.and_eq_true, decide_eq_true_iff, decide_eq_true_iff] at a4
    obtain ⟨b1, b2, b3⟩ := a4
    have hp := hP p.2 u p2 a3
    refine ⟨⟨p1, a3, by show D p.1 u < _; omega⟩, ?_⟩
    have hr := rk_lt (D := D p.1) (s := p.2) a3 (by omega)
    unfold potD
    rw [if_neg hne]
    show 5 * (d.1 - popN p.1 d.1) + rkN (D p.1) t.1 u - 4 + 1 ≤ _
    omega
theorem trc_ex {d : SD} {t : TD} {D : Nat → Nat → Nat} (hn : d.1 ≤ 14) (hm : t.1 ≤ 5) (hm0 : 0 < t.1) (hP : ∀ s u, s < t.1 → u < t.1 → 1 ≤ t.2.2.1 s u) (hC : CostOK d t D) (hF : D 0 0 < 1000000) : ∃ k, TrcOK d t D k ∧ ∀ j, j ≤ k → PosOK d t D (posD d t D j) := by
  have hp := pow_pos' d.1
  have key : ∀ f j, PosOK d t D (posD d t D j) → (∀ i, i < j → (posD d t D i).1 ≠ 2 ^ d.1 - 1) → (∀ i, i ≤ j → PosOK d t D (posD d t D i)) → potD d t D (posD d t D j) ≤ f → ∃ k, k ≤ j + f ∧ (posD d t D k).1 = 2 ^ d.1 - 1 ∧ (∀ i, i < k → (posD d t D i).1 ≠ 2 ^ d.1 - 1) ∧ ∀ i, i ≤ k → PosOK d t D (posD d t D i) := by
    intro f
    induction f with
    | zero =>
      intro j h1 h2 h3 h4
      by_cases e : (posD d t D j).1 = 2 ^ d.1 - 1
      · exact ⟨j, by omega, e, h2, h3⟩
      · have := (pos_step hn hm hP hC h1 e).2
        omega
    | succ f ih =>
      intro j h1 h2 h3 h4
      by_cases e : (posD d t D j).1 = 2 ^ d.1 - 1
      · exact ⟨j, by omega, e, h2, h3⟩
      · obtain ⟨q1, q2⟩ := pos_step hn hm hP hC h1 e
        obtain ⟨k, k1, k2, k3, k4⟩ := ih (j + 1) q1 (fun i hi => by
          by_cases c : i = j
          · subst c; exact e
          · exact h2 i (by omega)) (fun i hi => by
          by_cases c : i = j + 1
          · subst c; exact q1
          · exact h3 i (by omega)) (by omega)
        exact ⟨k, by omega, k2, k3, k4⟩
  have h0 : PosOK d t D (posD d t D 0) := ⟨hp, hm0, hF⟩
  have hpot : potD d t D (posD d t D 0) ≤ 70 := by
    unfold potD
    by_cases e : (posD d t D 0).1 = 2 ^ d.1 - 1
    · rw [if_pos e]; omega
    · rw [if_neg e]
      have := rk_m (D := D (posD d t D 0).1) (show (posD d t D 0).2 < t.1 from hm0)
      omega
  obtain ⟨k, k1, k2, k3, k4⟩ := key 70 0 h0 (fun i hi => by omega) (fun i hi => by rw [show i = 0 by omega]; exact h0) hpot
  exact ⟨k, ⟨by omega, k2, k3⟩, k4⟩
theorem trc_uni {d : SD} {t : TD} {D : Nat → Nat → Nat} {k k' : Nat} (h : TrcOK d t D k) (h' : TrcOK d t D k') : k = k' := by
  rcases Nat.lt_trichotomy k k' with q | q | q
  · exact absurd h.2.1 (h'.2.2 k q)
  · exact q
  · exact absurd h'.2.1 (h.2.2 k' q)
