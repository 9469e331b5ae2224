/-! laying, by days -/
theorem th_mono {fz : Nat → Bool} {a : Nat} : ∀ r, thN fz a ≤ thN fz (a + r)
  | 0 => Nat.le_refl _
  | r + 1 => by
    have := th_mono (fz := fz) (a := a) r
    rw [← Nat.add_assoc]
    unfold thN at *
    rw [sgN]
    omega
theorem th_le {fz : Nat → Bool} {a b : Nat} (h : a ≤ b) : thN fz a ≤ thN fz b := by
  have := th_mono (fz := fz) (a := a) (b - a)
  rw [show a + (b - a) = b by omega] at this
  exact this
theorem th_s (fz : Nat → Bool) (e : Nat) : thN fz (e + 1) = thN fz e + if fz e = true then 0 else 1 := rfl
theorem th_b (fz : Nat → Bool) : ∀ e, thN fz e ≤ e
  | 0 => Nat.le_refl _
  | e + 1 => by
    have := th_b fz e
    rw [th_s]
    by_cases c : fz e = true
    · rw [if_pos c]; omega
    · rw [if_neg c]; omega
theorem th_congr {fz fz' : Nat → Bool} {e : Nat} (h : ∀ x, x < e → fz x = fz' x) : thN fz e = thN fz' e := sg_congr e (fun j hj => by
  show (if fz j = true then 0 else 1) = if fz' j = true then 0 else 1
  rw [h j hj])
theorem bd_ge {rs : Nat} {lo : Nat → Nat} {r : Nat} (hb : rs.testBit r = true) : ∀ k, r < k → lo r + 1 ≤ bdN rs lo k
  | 0, h => by omega
  | k + 1, h => by
    rw [bdN]
    by_cases e : r = k
    · subst e; rw [if_pos hb]; omega
    · have := bd_ge (lo := lo) hb k (by omega)
      by_cases c : rs.testBit k = true
      · rw [if_pos c]; omega
      · rw [if_neg c]; exact this
theorem bd_at {rs : Nat} {lo : Nat → Nat} : ∀ k, bdN rs lo k ≠ 0 → ∃ r, r < k ∧ rs.testBit r = true ∧ bdN rs lo k = lo r + 1
  | 0, h => absurd rfl h
  | k + 1, h => by
    rw [bdN] at h ⊢
    by_cases c : rs.testBit k = true
    · rw [if_pos c] at h ⊢
      by_cases q : bdN rs lo k ≤ lo k + 1
      · exact ⟨k, by omega, c, by omega⟩
      · obtain ⟨r, a, b, e⟩ := bd_at (rs := rs) (lo := lo) k (by omega)
        exact ⟨r, by omega, b, by omega⟩
    · rw [if_neg c] at h ⊢
      obtain ⟨r, a, b, e⟩ := bd_at k h
      exact ⟨r, by omega, b, e⟩
theorem dry_all {C : CD} {fz : Nat → Bool} {lo : Nat → Nat} {i e : Nat} : dryB C fz lo i e = true ↔ ∀ r, r < C.1 → (C.2.2.2.1 i).testBit r = true → C.2.2.2.2.2 ≤ thN fz e - thN fz (lo r + 1) := by
  unfold dryB
  rw [decide_eq_true_iff]
  constructor
  · rintro (h | h) r hr hb
    · have := bd_ge (lo := lo) hb C.1 hr
      omega
    · have := bd_ge (lo := lo) hb C.1 hr
      have := th_le (fz := fz) this
      omega
  · intro h
    by_cases c : bdN (C.2.2.2.1 i) lo C.1 = 0
    · exact Or.inl c
    · obtain ⟨r, a, b, e'⟩ := bd_at C.1 c
      rw [e']
      exact Or.inr (h r a b)
theorem go_ge {C : CD} {fz : Nat → Bool} {lo : Nat → Nat} {i : Nat} : ∀ f e l, e ≤ (goN C fz lo i f e l).1
  | 0, e, l => Nat.le_refl _
  | f + 1, e, l => by
    rw [goN]
    by_cases c : 80 ≤ e
    · rw [if_pos c]; exact Nat.le_refl _
    · rw [if_neg c]
      by_cases q : l < C.2.2.1 i ∨ dryB C fz lo i e = false
      · rw [if_pos q]
        have := go_ge (C := C) (fz := fz) (lo := lo) (i := i) f (e + 1) (wkN C fz (e + 1))
        omega
      · rw [if_neg q]; exact Nat.le_refl _
theorem go_le {C : CD} {fz : Nat → Bool} {lo : Nat → Nat} {i : Nat} : ∀ f e l, e ≤ 80 → (goN C fz lo i f e l).1 ≤ 80
  | 0, e, l, h => h
  | f + 1, e, l, h => by
    rw [goN]
    by_cases c : 80 ≤ e
    · rw [if_pos c]; exact h
    · rw [if_neg c]
      by_cases q : l < C.2.2.1 i ∨ dryB C fz lo i e = false
      · rw [if_pos q]
        exact go_le f (e + 1) (wkN C fz (e + 1)) (by omega)
      · rw [if_neg q]; exact h
theorem lay_le {C : CD} {fz : Nat → Bool} : ∀ k, (layN C fz k).1 ≤ 80
  | 0 => by rw [layN]; exact Nat.zero_le _
  | k + 1 => by
    rw [layN]
    exact go_le 81 _ _ (lay_le k)
theorem lay_s {C : CD} {fz : Nat → Bool} (k : Nat) : (layN C fz k).1 ≤ (layN C fz (k + 1)).1 := by
  show _ ≤ (goN C fz (layN C fz k).2.2 (C.2.1 k) 81 (layN C fz k).1 (layN C fz k).2.1).1
  exact go_ge 81 _ _
theorem lay_mono {C : CD} {fz : Nat → Bool} {a : Nat} : ∀ r, (layN C fz a).1 ≤ (layN C fz (a + r)).1
  | 0 => Nat.le_refl _
  | r + 1 => Nat.le_trans (lay_mono r) (lay_s (a + r))
theorem lay_lo {C : CD} {fz : Nat → Bool} : ∀ k j, j < k → (layN C fz k).2.2 (C.2.1 j) ≤ (layN C fz k).1
  | 0, j, h => by omega
  | k + 1, j, h => by
    have hs := lay_s (C := C) (fz := fz) k
    rw [layN] at hs ⊢
    show (if C.2.1 j = C.2.1 k then (goN C fz (layN C fz k).2.2 (C.2.1 k) 81 (layN C fz k).1 (layN C fz k).2.1).1 else (layN C fz k).2.2 (C.2.1 j)) ≤ (goN C fz (layN C fz k).2.2 (C.2.1 k) 81 (layN C fz k).1 (layN C fz k).2.1).1
    by_cases e : C.2.1 j = C.2.1 k
    · rw [if_pos e]; exact Nat.le_refl _
    · rw [if_neg e]
      have hjk : j ≠ k := fun q => e (by rw [q])
      exact Nat.le_trans (lay_lo k j (by omega)) hs
theorem go_same {C : CD} {fz fz' : Nat → Bool} {lo : Nat → Nat} {i E : Nat} (h : ∀ x, x ≤ E → fz x = fz' x) : ∀ f e l, (goN C fz lo i f e l).1 ≤ E → goN C fz' lo i f e l = goN C fz lo i f e l
  | 0, e, l, _ => rfl
  | f + 1, e, l, hE => by
    have hge := go_ge (C := C) (fz := fz) (lo := lo) (i := i) (f + 1) e l
    have hd : dryB C fz' lo i e = dryB C fz lo i e := by
      unfold dryB
      have h1 : thN fz' e = thN fz e := th_congr (fun x hx => (h x (by omega)).symm)
      by_cases c : bdN (C.2.2.2.1 i) lo C.1 ≤ e
      · rw [h1, show thN fz' (bdN (C.2.2.2.1 i) lo C.1) = thN fz (bdN (C.2.2.2.1 i) lo C.1) from th_congr (fun x hx => (h x (by omega)).symm)]
      · have a1 := th_le (fz := fz) (show e ≤ bdN (C.2.2.2.1 i) lo C.1 by omega)
        have a2 := th_le (fz := fz') (show e ≤ bdN (C.2.2.2.1 i) lo C.1 by omega)
        rw [show thN fz' e - thN fz' (bdN (C.2.2.2.1 i) lo C.1) = 0 by omega, show thN fz e - thN fz (bdN (C.2.2.2.1 i) lo C.1) = 0 by omega]
    rw [goN] at hE ⊢
    rw [goN, hd]
    by_cases c : 80 ≤ e
    · rw [if_pos c, if_pos c]
    · rw [if_neg c] at hE ⊢
      rw [if_neg c]
      by_cases q : l < C.2.2.1 i ∨ dryB C fz lo i e = false
      · rw [if_pos q] at hE ⊢
        rw [if_pos q]
        have hg2 := go_ge (C := C) (fz := fz) (lo := lo) (i := i) f (e + 1) (wkN C fz (e + 1))
        have hw : wkN C fz' (e + 1) = wkN C fz (e + 1) := by
          unfold wkN
          rw [h (e + 1) (by omega)]
        rw [hw]
        exact go_same h f (e + 1) _ hE
      · rw [if_neg q, if_neg q]
theorem lay_same {C : CD} {fz fz' : Nat → Bool} {E : Nat} (h : ∀ x, x ≤ E → fz x = fz' x) : ∀ k, (layN C fz k).1 ≤ E → layN C fz' k = layN C fz k
  | 0, _ => by
    rw [layN, layN]
    have : wkN C fz' 0 = wkN C fz 0 := by unfold wkN; rw [h 0 (Nat.zero_le _)]
    rw [this]
  | k + 1, hE => by
    have hs := lay_s (C := C) (fz := fz) k
    have ih := lay_same (C := C) h k (by omega)
    rw [layN] at hE
    rw [layN, layN, ih, go_same h 81 _ _ hE]
theorem end_le {C : CD} {fz : Nat → Bool} : endN C fz ≤ 80 := lay_le C.1
theorem end_same {C : CD} {fz fz' : Nat → Bool} (h : ∀ x, x ≤ endN C fz → fz x = fz' x) : endN C fz' = endN C fz := by
  unfold endN
  rw [lay_same h C.1 (Nat.le_refl _)]
theorem end_plus {C : CD} {fz : Nat → Bool} {a : Nat} (h : endN C fz < a) : endN C (plusF fz a) = endN C fz := end_same (fun x hx => by
  unfold plusF
  rw [decide_eq_false (show ¬ x = a by omega), Bool.or_false])
theorem end_plus2 {C : CD} {fz : Nat → Bool} {a b : Nat} (h : endN C fz < a) (h2 : endN C fz < b) : endN C (plusF (plusF fz a) b) = endN C fz := by
  rw [end_plus (by rw [end_plus h]; exact h2), end_plus h]
/-! the first of the largest -/
theorem best_0 {V : Nat → Bool} {val : Nat → Nat} {q : Nat} : BestOK V val 0 0 q := Or.inl ⟨rfl, fun p hp => by omega⟩
theorem best_skip {V : Nat → Bool} {val : Nat → Nat} {N w q : Nat} (h : BestOK V val N w q) (hv : V N = true → val N + 1 ≤ w) : BestOK V val (N + 1) w q := by
  rcases h with ⟨h1, h2⟩ | ⟨e, h1, h2, h3, h4, h5⟩
  · refine Or.inl ⟨h1, fun p hp => ?_⟩
    by_cases c : p = N
    · subst c
      cases hV : V p
      · rfl
      · have := hv hV; omega
    · exact h2 p (by omega)
  · refine Or.inr ⟨e, h1, by omega, h3, h4, fun p hp hV => ?_⟩
    by_cases c : p = N
    · subst c
      have := hv hV
      exact ⟨by omega, fun q' => by omega⟩
    · exact h5 p (by omega) hV
theorem best_take {V : Nat → Bool} {val : Nat → Nat} {N w q : Nat} (h : BestOK V val N w q) (hV : V N = true) (hv : w < val N + 1) : BestOK V val (N + 1) (val N + 1) N := by
  refine Or.inr ⟨val N, rfl, by omega, hV, rfl, fun p hp hVp => ?_⟩
  by_cases c : p = N
  · subst c; exact ⟨Nat.le_refl _, fun q' => by omega⟩
  · rcases h with ⟨h1, h2⟩ | ⟨e, h1, h2, h3, h4, h5⟩
    · rw [h2 p (by omega)] at hVp; exact absurd hVp (by decide)
    · have := (h5 p (by omega) hVp).1
      exact ⟨by omega, fun _ => by omega⟩
theorem best_more {V : Nat → Bool} {val : Nat → Nat} {N w q : Nat} (h : BestOK V val N w q) : ∀ r, (∀ p, N ≤ p → p < N + r → V p = true → val p + 1 ≤ w) → BestOK V val (N + r) w q
  | 0, _ => h
  | r + 1, hr => best_skip (best_more h r (fun p a b => hr p a (by omega))) (hr (N + r) (by omega) (by omega))
theorem best_uni {V : Nat → Bool} {val : Nat → Nat} {N w q w' q' : Nat} (h : BestOK V val N w q) (h' : BestOK V val N w' q') : w = w' ∧ (w ≠ 0 → q = q') := by
  rcases h with ⟨h1, h2⟩ | ⟨e, h1, h2, h3, h4, h5⟩
  · rcases h' with ⟨g1, g2⟩ | ⟨e', g1, g2, g3, g4, g5⟩
    · exact ⟨by omega, fun q => by omega⟩
    · rw [h2 q' g2] at g3; exact absurd g3 (by decide)
  · rcases h' with ⟨g1, g2⟩ | ⟨e', g1, g2, g3, g4, g5⟩
    · rw [g2 q h2] at h3; exact absurd h3 (by decide)
    · have a := h5 q' g2 g3
      have b := g5 q h2 h3
      refine ⟨by omega, fun _ => ?_⟩
      rcases Nat.lt_trichotomy q q' with c | c | c
      · have := b.2 c; omega
      · exact c
      · have := a.2 c; omega
/-! the order of laying -/
/-- each is a stone, rests on earlier ones, and none is left out -/
def OrdF (d : SD) (ord : Nat → Nat) : Prop := (∀ k, k < d.1 → ord k < d.1) ∧ (∀ k r, k < d.1 → r < d.1 → (d.2.2.1 (ord k)).testBit r = true → ∃ j, j < k ∧ ord j = r) ∧ ∀ i, i < d.1 → ∃ j, j < d.1 ∧ ord j = i
theorem pop_all {n : Nat} : ∀ k, k ≤ n → popN (2 ^ n - 1) k = k
  | 0, _ => rfl
  | k + 1, h => by
    rw [popN, pop_all k (by omega), (bit_t _ k).mpr (by rw [all_bit, decide_eq_true (by omega)])]
theorem of_inv {d : SD} {t : TD} {D : Nat → Nat → Nat} (hn : d.1 ≤ 14) (hm : t.1 ≤ 5) (hr : ∀ i, i < d.1 → d.2.2.1 i < 2 ^ 32) (hC : CostOK d t D) {kn : Nat} (hk : TrcOK d t D kn) (hpos : ∀ j, j ≤ kn → PosOK d t D (posD d t D j)) : ∀ j, j ≤ kn → (ofN d t D j).1 = popN (posD d t D j).1 d.1 ∧ (∀ i, i < d.1 → ((posD d t D j).1.testBit i = true ↔ ∃ x, x < (ofN d t D j).1 ∧ (ofN d t D j).2 x = i)) ∧ (∀ x, x < (ofN d t D j).1 → (ofN d t D j).2 x < d.1) ∧ ∀ x r, x < (ofN d t D j).1 → r < d.1 → (d.2.2.1 ((ofN d t D j).2 x)).testBit r = true → ∃ y, y < x ∧ (ofN d t D j).2 y = r := by
  intro j
  induction j with
  | zero =>
    intro _
    refine ⟨(popN_0 d.1).symm, fun i hi => ?_, fun x hx => absurd hx (Nat.not_lt_zero _), fun x r hx => absurd hx (Nat.not_lt_zero _)⟩
    show (0 : Nat).testBit i = true ↔ _
    rw [Nat.zero_testBit]
    exact ⟨fun q => absurd q (by decide), fun ⟨x, hx, _⟩ => absurd hx (Nat.not_lt_zero _)⟩
  | succ j ih =>
    intro hj
    obtain ⟨i1, i2, i3, i4⟩ := ih (by omega)
    obtain ⟨p1, p2, p3⟩ := hpos j (by omega)
    have hne := hk.2.2 j (by omega)
    rw [ofN, posD]
    unfold actN
    rcases act_ok hC p1 hne p2 p3 with ⟨a1, a2, a3⟩ | ⟨a1, a2, a3, a4⟩
    · have hlt : actD d t D (posD d t D j).1 (posD d t D j).2 < d.1 := by rw [a2]; exact a1
      rw [if_pos (show actD d t D (posD d t D j).1 (posD d t D j).2 < 100 by omega), if_pos (show actD d t D (posD d t D j).1 (posD d t D j).2 < 100 by omega)]
      generalize actD d t D (posD d t D j).1 (posD d t D j).2 = a at *
      generalize (posD d t D j).1 = set at *
      generalize (ofN d t D j).1 = c at *
      generalize (ofN d t D j).2 = o at *
      unfold layB at a3
      rw [Bool.and_eq_true, Bool.and_eq_true] at a3
      have hbor : borD d set a = true := by
        have := a3.2.1
        unfold mayD at this
        rw [Bool.and_eq_true] at this
        exact this.1
      have hbit := bor_t hbor
      have hsub : ∀ r, (d.2.2.1 a).testBit r = true → set.testBit r = true := by
        unfold borD at hbor
        rw [decide_eq_true_iff] at hbor
        exact (ms_0 (hr a hlt)).mp hbor.2
      have hold : ∀ x, x < c → (if x = c then a else o x) = o x := fun x hx => if_neg (by omega)
      refine ⟨?_, fun i hi => ?_, fun x hx => ?_, fun x r hx hr' hb => ?_⟩
      · show c + 1 = popN (set ||| 2 ^ a) d.1
        rw [popN_or hbit, if_pos hlt, i1]
      · show (set ||| 2 ^ a).testBit i = true ↔ ∃ x, x < c + 1 ∧ (if x = c then a else o x) = i
        rw [test_or, Bool.or_eq_true, decide_eq_true_iff, i2 i hi]
        constructor
        · rintro (⟨x, q1, q2⟩ | q)
          · exact ⟨x, by omega, by rw [hold x q1]; exact q2⟩
          · exact ⟨c, by omega, by rw [if_pos rfl]; exact q⟩
        · rintro ⟨x, q1, q2⟩
          by_cases e : x = c
          · rw [if_pos e] at q2; exact Or.inr q2
          · rw [if_neg e] at q2; exact Or.inl ⟨x, by omega, q2⟩
      · show (if x = c then a else o x) < d.1
        have hx : x < c + 1 := hx
        by_cases e : x = c
        · rw [if_pos e]; exact hlt
        · rw [if_neg e]; exact i3 x (by omega)
      · have hx : x < c + 1 := hx
        have hb : (d.2.2.1 (if x = c then a else o x)).testBit r = true := hb
        show ∃ y, y < x ∧ (if y = c then a else o y) = r
        by_cases e : x = c
        · rw [if_pos e] at hb
          obtain ⟨y, q1, q2⟩ := (i2 r hr').mp (hsub r hb)
          exact ⟨y, by omega, by rw [hold y q1]; exact q2⟩
        · rw [if_neg e] at hb
          obtain ⟨y, q1, q2⟩ := i4 x r (by omega) hr' hb
          exact ⟨y, q1, by rw [hold y (by omega)]; exact q2⟩
    · rw [if_neg (show ¬ actD d t D (posD d t D j).1 (posD d t D j).2 < 100 by omega), if_neg (show ¬ actD d t D (posD d t D j).1 (posD d t D j).2 < 100 by omega)]
      exact ⟨i1, i2, i3, i4⟩
theorem of_end {d : SD} {t : TD} {D : Nat → Nat → Nat} (hn : d.1 ≤ 14) (hm : t.1 ≤ 5) (hr : ∀ i, i < d.1 → d.2.2.1 i < 2 ^ 32) (hC : CostOK d t D) {kn : Nat} (hk : TrcOK d t D kn) (hpos : ∀ j, j ≤ kn → PosOK d t D (posD d t D j)) : (ofN d t D kn).1 = d.1 ∧ OrdF d (ofN d t D kn).2 := by
  obtain ⟨i1, i2, i3, i4⟩ := of_inv hn hm hr hC hk hpos kn (Nat.le_refl _)
  have h1 : (ofN d t D kn).1 = d.1 := by rw [i1, hk.2.1, pop_all d.1 (Nat.le_refl _)]
  rw [h1] at i2 i3 i4
  refine ⟨h1, i3, i4, fun i hi => ?_⟩
  refine (i2 i hi).mp ?_
  rw [hk.2.1, all_bit, decide_eq_true hi]
theorem id_ord {d : SD} (hr : ∀ i, i < d.1 → d.2.2.1 i < 2 ^ i) : OrdF d (fun x => x) := by
  refine ⟨fun k hk => hk, fun k r hk _ hb => ⟨r, ?_, rfl⟩, fun i hi => ⟨i, hi, rfl⟩⟩
  refine Classical.byContradiction fun q => ?_
  rw [test_hi (hr k hk) (show k ≤ r by omega)] at hb
  exact absurd hb (by decide)
theorem ord_uni {d : SD} {t : TD} (hP : ∀ s u, s < t.1 → u < t.1 → 1 ≤ t.2.2.1 s u) {o o' : Nat → Nat} (h : OrdOK d t o) (h' : OrdOK d t o') : o = o' := by
  rcases h with ⟨a1, a2⟩ | ⟨a1, D, a2, a3⟩
  · rcases h' with ⟨b1, b2⟩ | ⟨b1, _⟩
    · rw [a2, b2]
    · exact absurd a1 b1
  · rcases h' with ⟨b1, b2⟩ | ⟨b1, D', b2, b3⟩
    · exact absurd b1 a1
    · have := cost_uni hP a2 b2
      subst this
      rcases a3 with ⟨a4, a5⟩ | ⟨a4, kn, a5, a6⟩
      · rcases b3 with ⟨b4, b5⟩ | ⟨b4, _⟩
        · rw [a5, b5]
        · omega
      · rcases b3 with ⟨b4, b5⟩ | ⟨b4, kn', b5, b6⟩
        · omega
        · rw [a6, b6, trc_uni a5 b5]
