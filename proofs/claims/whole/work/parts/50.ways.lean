theorem sg_congr {f g : Nat → Nat} : ∀ n, (∀ j, j < n → f j = g j) → sgN f n = sgN g n
  | 0, _ => rfl
  | n + 1, h => by rw [sgN, sgN, sg_congr n (fun j hj => h j (by omega)), h n (by omega)]
theorem sg_ge {f : Nat → Nat} {j : Nat} : ∀ n, j < n → f j ≤ sgN f n
  | 0, h => by omega
  | n + 1, h => by
    rw [sgN]
    by_cases e : j = n
    · subst e; omega
    · have := sg_ge (f := f) (j := j) n (by omega)
      omega
theorem sg_le {f : Nat → Nat} {c : Nat} : ∀ n, (∀ j, j < n → f j ≤ c) → sgN f n ≤ n * c
  | 0, _ => by rw [sgN]; omega
  | n + 1, h => by
    have h1 := sg_le n (fun j hj => h j (by omega))
    have h2 := h n (by omega)
    rw [sgN, Nat.succ_mul]
    omega
def adN (w : Nat → Nat) (j v : Nat) : Nat → Nat := fun s => if s = j then w s + v else w s
def zrN (w : Nat → Nat) (j : Nat) : Nat → Nat := fun s => if s = j then 0 else w s
def hsN (G : Nat → Nat) (k s : Nat) : Nat := if s < k then 0 else G s
theorem sg_ad {w h : Nat → Nat} {j v : Nat} : ∀ n, (j < n → sgN (fun s => adN w j v s * h s) n = sgN (fun s => w s * h s) n + v * h j) ∧ (n ≤ j → sgN (fun s => adN w j v s * h s) n = sgN (fun s => w s * h s) n)
  | 0 => ⟨fun q => by omega, fun _ => rfl⟩
  | n + 1 => by
    obtain ⟨h1, h2⟩ := sg_ad (w := w) (h := h) (j := j) (v := v) n
    rw [sgN, sgN]
    constructor
    · intro q
      by_cases e : j = n
      · subst e
        rw [h2 (Nat.le_refl _)]
        unfold adN
        rw [if_pos rfl, Nat.add_mul]
        omega
      · rw [h1 (by omega)]
        unfold adN
        rw [if_neg (by omega)]
        omega
    · intro q
      rw [h2 (by omega)]
      unfold adN
      rw [if_neg (by omega)]
theorem sg_hs {w G : Nat → Nat} {k : Nat} : ∀ n, (k < n → sgN (fun s => w s * hsN G k s) n = sgN (fun s => w s * hsN G (k + 1) s) n + w k * G k) ∧ (n ≤ k → sgN (fun s => w s * hsN G k s) n = sgN (fun s => w s * hsN G (k + 1) s) n)
  | 0 => ⟨fun q => by omega, fun _ => rfl⟩
  | n + 1 => by
    obtain ⟨h1, h2⟩ := sg_hs (w := w) (G := G) (k := k) n
    rw [sgN, sgN]
    constructor
    · intro q
      by_cases e : k = n
      · subst e
        rw [h2 (Nat.le_refl _)]
        unfold hsN
        rw [if_neg (Nat.lt_irrefl k), if_pos (by omega), Nat.mul_zero]
        omega
      · rw [h1 (by omega)]
        unfold hsN
        rw [if_neg (show ¬ n < k by omega), if_neg (show ¬ n < k + 1 by omega)]
        omega
    · intro q
      rw [h2 (by omega)]
      unfold hsN
      rw [if_pos (show n < k by omega), if_pos (show n < k + 1 by omega)]
theorem bor_t {d : SD} {k i : Nat} (h : borD d k i = true) : k.testBit i = false := by
  unfold borD at h
  rw [decide_eq_true_iff] at h
  exact (bit_f k i).mp h.1
theorem or_gt {k i : Nat} (h : k.testBit i = false) : k < k ||| 2 ^ i := by
  refine Nat.lt_of_le_of_ne Nat.left_le_or (fun e => ?_)
  have := test_or k i i
  rw [← e, h] at this
  simp at this
/-- what one set adds to those above it -/
def inW (d : SD) (k c : Nat) (w : Nat → Nat) : Nat → Nat → Nat
  | 0 => w
  | i + 1 => if borD d k i = true then adN (inW d k c w i) (k ||| 2 ^ i) c else inW d k c w i
theorem inW_sum {d : SD} {k c : Nat} {w G : Nat → Nat} (hk : k < 2 ^ d.1) : ∀ i, i ≤ d.1 → sgN (fun s => inW d k c w i s * hsN G (k + 1) s) (2 ^ d.1) = sgN (fun s => w s * hsN G (k + 1) s) (2 ^ d.1) + c * sgN (fun i => if borD d k i = true then G (k ||| 2 ^ i) else 0) i
  | 0, _ => by rw [inW, sgN, Nat.mul_zero]; rfl
  | i + 1, hi => by
    have ih := inW_sum (c := c) (w := w) (G := G) hk i (by omega)
    rw [inW, sgN]
    by_cases hb : borD d k i = true
    · rw [if_pos hb, if_pos hb, (sg_ad (2 ^ d.1)).1 (or_lt hk (by omega)), ih]
      have := or_gt (bor_t hb)
      rw [show hsN G (k + 1) (k ||| 2 ^ i) = G (k ||| 2 ^ i) from if_neg (by omega), Nat.mul_add]
      omega
    · rw [if_neg hb, if_neg hb, ih]; rfl
theorem inW_lo {d : SD} {k c : Nat} {w : Nat → Nat} {s : Nat} (hs : s ≤ k) : ∀ i, inW d k c w i s = w s
  | 0 => rfl
  | i + 1 => by
    rw [inW]
    by_cases hb : borD d k i = true
    · rw [if_pos hb]
      have := or_gt (bor_t hb)
      unfold adN
      rw [if_neg (by omega), inW_lo hs i]
    · rw [if_neg hb, inW_lo hs i]
theorem inW_ge {d : SD} {k c : Nat} {w : Nat → Nat} (s : Nat) : ∀ i, w s ≤ inW d k c w i s
  | 0 => Nat.le_refl _
  | i + 1 => by
    have := inW_ge (d := d) (k := k) (c := c) (w := w) s i
    rw [inW]
    by_cases hb : borD d k i = true
    · rw [if_pos hb]
      unfold adN
      by_cases e : s = k ||| 2 ^ i
      · rw [if_pos e]; omega
      · rw [if_neg e]; exact this
    · rw [if_neg hb]; exact this
theorem inW_ne {d : SD} {k c : Nat} {w : Nat → Nat} (hc : c ≠ 0) {j : Nat} (hb : borD d k j = true) : ∀ i, j < i → inW d k c w i (k ||| 2 ^ j) ≠ 0
  | 0, h => by omega
  | i + 1, h => by
    rw [inW]
    by_cases e : j = i
    · subst e
      rw [if_pos hb]
      unfold adN
      rw [if_pos rfl]
      omega
    · have := inW_ne (w := w) hc hb i (by omega)
      by_cases hb' : borD d k i = true
      · rw [if_pos hb']
        unfold adN
        by_cases q : (k ||| 2 ^ j) = k ||| 2 ^ i
        · rw [if_pos q]; omega
        · rw [if_neg q]; exact this
      · rw [if_neg hb']; exact this
theorem inW_0 {d : SD} {k : Nat} {w : Nat → Nat} : ∀ i, inW d k 0 w i = w
  | 0 => rfl
  | i + 1 => by
    rw [inW, inW_0 i]
    by_cases hb : borD d k i = true
    · rw [if_pos hb]
      funext s
      unfold adN
      by_cases e : s = k ||| 2 ^ i
      · rw [if_pos e, Nat.add_zero]
      · rw [if_neg e]
    · rw [if_neg hb]
def pwN (s : Nat) : Nat := 14 ^ (14 - popN s 14)
def gbN (d : SD) (B : Nat → Nat) (s : Nat) : Nat := if cenD d s = true then B s else 0
theorem pw_sum {d : SD} (hn : d.1 ≤ 14) (k : Nat) : sgN (fun i => if borD d k i = true then pwN (k ||| 2 ^ i) else 0) d.1 ≤ pwN k := by
  by_cases h14 : popN k 14 < 14
  · have h1 := sg_le (f := fun i => if borD d k i = true then pwN (k ||| 2 ^ i) else 0) (c := 14 ^ (13 - popN k 14)) d.1 (fun j hj => by
      show (if borD d k j = true then pwN (k ||| 2 ^ j) else 0) ≤ _
      by_cases hb : borD d k j = true
      · rw [if_pos hb]
        unfold pwN
        rw [popN_or (bor_t hb) 14, if_pos (by omega)]
        exact Nat.le_of_eq (congrArg (fun x => 14 ^ x) (by omega))
      · rw [if_neg hb]; exact Nat.zero_le _)
    refine Nat.le_trans h1 ?_
    unfold pwN
    rw [show 14 - popN k 14 = (13 - popN k 14) + 1 by omega, Nat.pow_succ, Nat.mul_comm]
    exact Nat.mul_le_mul_left _ hn
  · have : sgN (fun i => if borD d k i = true then pwN (k ||| 2 ^ i) else 0) d.1 = 0 := by
      have := sg_le (f := fun i => if borD d k i = true then pwN (k ||| 2 ^ i) else 0) (c := 0) d.1 (fun j hj => by
        show (if borD d k j = true then pwN (k ||| 2 ^ j) else 0) ≤ _
        by_cases hb : borD d k j = true
        · have h1 := popN_or (bor_t hb) 14
          rw [if_pos (by omega)] at h1
          have h2 := popN_le (k ||| 2 ^ j) 14
          omega
        · rw [if_neg hb]; exact Nat.zero_le _)
      omega
    omega
theorem cen_0 {d : SD} : cenD d 0 = true := by
  unfold cenD
  rw [decide_eq_true_iff]
  have : ∀ j, arN d.2.2.2 0 j = 0 := fun j => by
    induction j with
    | zero => rfl
    | succ j ih => rw [arN, if_neg (fun q => by have := q.2.1; rw [(bit_f 0 j).mpr (Nat.zero_testBit j)] at this; omega), ih]
  rw [this, popN_0]
  omega
theorem all_bit {n j : Nat} : (2 ^ n - 1).testBit j = decide (j < n) := Nat.testBit_two_pow_sub_one n j
/-- how it stands ahead of set k -/
def InO (d : SD) (k : Nat) (w : Nat → Nat) : Prop := (∀ B, BwOK d B → if k < 2 ^ d.1 then sgN (fun s => w s * hsN (gbN d B) k s) (2 ^ d.1) = B 0 else w (2 ^ d.1 - 1) = B 0) ∧ (sgN (fun s => w s * hsN pwN k s) (2 ^ d.1) ≤ 14 ^ 14) ∧ (∀ s, s < 2 ^ d.1 → w s ≤ 14 ^ 14) ∧ (w 0 ≠ 0) ∧ (∀ s, s < k → w s ≠ 0 → cenD d s = true) ∧ (∀ s i, s < k → i < d.1 → w s ≠ 0 → borD d s i = true → (k ≤ s ||| 2 ^ i → w (s ||| 2 ^ i) ≠ 0) ∧ (s ||| 2 ^ i < k → cenD d (s ||| 2 ^ i) = true → w (s ||| 2 ^ i) ≠ 0))
theorem InO.ia {d : SD} {k : Nat} {w : Nat → Nat} (h : InO d k w) : ∀ B, BwOK d B → if k < 2 ^ d.1 then sgN (fun s => w s * hsN (gbN d B) k s) (2 ^ d.1) = B 0 else w (2 ^ d.1 - 1) = B 0 := h.1
theorem InO.ib {d : SD} {k : Nat} {w : Nat → Nat} (h : InO d k w) : sgN (fun s => w s * hsN pwN k s) (2 ^ d.1) ≤ 14 ^ 14 := h.2.1
theorem InO.ic {d : SD} {k : Nat} {w : Nat → Nat} (h : InO d k w) : ∀ s, s < 2 ^ d.1 → w s ≤ 14 ^ 14 := h.2.2.1
theorem InO.id0 {d : SD} {k : Nat} {w : Nat → Nat} (h : InO d k w) : w 0 ≠ 0 := h.2.2.2.1
theorem InO.ie {d : SD} {k : Nat} {w : Nat → Nat} (h : InO d k w) : ∀ s, s < k → w s ≠ 0 → cenD d s = true := h.2.2.2.2.1
theorem InO.if' {d : SD} {k : Nat} {w : Nat → Nat} (h : InO d k w) : ∀ s i, s < k → i < d.1 → w s ≠ 0 → borD d s i = true → (k ≤ s ||| 2 ^ i → w (s ||| 2 ^ i) ≠ 0) ∧ (s ||| 2 ^ i < k → cenD d (s ||| 2 ^ i) = true → w (s ||| 2 ^ i) ≠ 0) := h.2.2.2.2.2
def w1N (d : SD) (k : Nat) (w : Nat → Nat) : Nat → Nat := if cenD d k = true then w else zrN w k
theorem w1_ne {d : SD} {k s : Nat} {w : Nat → Nat} (h : s ≠ k) : w1N d k w s = w s := by
  unfold w1N
  by_cases c : cenD d k = true
  · rw [if_pos c]
  · rw [if_neg c]; exact if_neg h
theorem w1_le {d : SD} {k : Nat} {w : Nat → Nat} (s : Nat) : w1N d k w s ≤ w s := by
  unfold w1N
  by_cases c : cenD d k = true
  · rw [if_pos c]; exact Nat.le_refl _
  · rw [if_neg c]; unfold zrN
    by_cases e : s = k
    · rw [if_pos e]; exact Nat.zero_le _
    · rw [if_neg e]; exact Nat.le_refl _
theorem w1_cen {d : SD} {k : Nat} {w : Nat → Nat} (h : w1N d k w k ≠ 0) : cenD d k = true := by
  unfold w1N at h
  by_cases c : cenD d k = true
  · exact c
  · rw [if_neg c] at h; unfold zrN at h; rw [if_pos rfl] at h; exact absurd rfl h
theorem w1_sum {d : SD} {k : Nat} {w G : Nat → Nat} (n : Nat) : sgN (fun s => w1N d k w s * hsN G (k + 1) s) n = sgN (fun s => w s * hsN G (k + 1) s) n := sg_congr n (fun s _ => by
  show w1N d k w s * hsN G (k + 1) s = w s * hsN G (k + 1) s
  by_cases e : s = k
  · subst e; unfold hsN; rw [if_pos (by omega), Nat.mul_zero, Nat.mul_zero]
  · rw [w1_ne e])
theorem ino_step {d : SD} {k : Nat} {w : Nat → Nat} (hn : d.1 ≤ 14) (hall : cenD d (2 ^ d.1 - 1) = true) (hk : k < 2 ^ d.1) (h : InO d k w) : InO d (k + 1) (inW d k (w1N d k w k) (w1N d k w) d.1) := by
  have hkk : inW d k (w1N d k w k) (w1N d k w) d.1 k = w1N d k w k := inW_lo (Nat.le_refl k) d.1
  have hb : sgN (fun s => inW d k (w1N d k w k) (w1N d k w) d.1 s * hsN pwN (k + 1) s) (2 ^ d.1) ≤ 14 ^ 14 := by
    rw [inW_sum hk d.1 (Nat.le_refl _), w1_sum]
    have h1 := h.ib
    rw [(sg_hs (2 ^ d.1)).1 hk] at h1
    have h2 : w1N d k w k * sgN (fun i => if borD d k i = true then pwN (k ||| 2 ^ i) else 0) d.1 ≤ w k * pwN k := Nat.mul_le_mul (w1_le k) (pw_sum hn k)
    omega
  refine ⟨fun B hB => ?_, hb, fun s hs => ?_, ?_, fun s hs h0 => ?_, fun s i hs hi h0 hbo => ?_⟩
  · have ha := h.ia B hB
    rw [if_pos hk] at ha
    rw [(sg_hs (2 ^ d.1)).1 hk] at ha
    by_cases hl : k + 1 < 2 ^ d.1
    · rw [if_pos hl, inW_sum hk d.1 (Nat.le_refl _), w1_sum]
      by_cases hc : cenD d k = true
      · have h1 : gbN d B k = B k := if_pos hc
        have h2 : sgN (fun i => if borD d k i = true then gbN d B (k ||| 2 ^ i) else 0) d.1 = B k := by
          rw [hB.2 k (by omega)]
          refine sg_congr d.1 (fun i _ => ?_)
          show (if borD d k i = true then gbN d B (k ||| 2 ^ i) else 0) = if mayD d k i = true then B (k ||| 2 ^ i) else 0
          unfold mayD gbN
          cases borD d k i <;> cases cenD d (k ||| 2 ^ i) <;> rfl
        have h3 : w1N d k w k = w k := by unfold w1N; rw [if_pos hc]
        rw [h2, h3]
        rw [h1] at ha
        exact ha
      · have h1 : gbN d B k = 0 := if_neg hc
        have h3 : w1N d k w k = 0 := by unfold w1N; rw [if_neg hc]; exact if_pos rfl
        rw [h3, Nat.zero_mul]
        rw [h1, Nat.mul_zero] at ha
        exact ha
    · have ek : k = 2 ^ d.1 - 1 := by omega
      rw [if_neg hl, ← ek, hkk]
      have hc : cenD d k = true := by rw [ek]; exact hall
      have h3 : w1N d k w k = w k := by unfold w1N; rw [if_pos hc]
      have h1 : gbN d B k = 1 := by rw [show gbN d B k = B k from if_pos hc, ek]; exact hB.1
      have h4 : sgN (fun s => w s * hsN (gbN d B) (k + 1) s) (2 ^ d.1) = 0 := by
        have := sg_le (f := fun s => w s * hsN (gbN d B) (k + 1) s) (c := 0) (2 ^ d.1) (fun j hj => by
          show w j * hsN (gbN d B) (k + 1) j ≤ 0
          rw [show hsN (gbN d B) (k + 1) j = 0 from if_pos (by omega)]
          exact Nat.le_refl _)
        omega
      rw [h4, h1] at ha
      rw [h3]
      omega
  · by_cases hs' : s ≤ k
    · rw [inW_lo hs' d.1]
      exact Nat.le_trans (w1_le s) (h.ic s hs)
    · have h1 := sg_ge (f := fun s => inW d k (w1N d k w k) (w1N d k w) d.1 s * hsN pwN (k + 1) s) (2 ^ d.1) hs
      have h2 : hsN pwN (k + 1) s = pwN s := if_neg (by omega)
      have h3 : 1 ≤ pwN s := Nat.pow_pos (by decide)
      have h4 : inW d k (w1N d k w k) (w1N d k w) d.1 s * 1 ≤ inW d k (w1N d k w k) (w1N d k w) d.1 s * hsN pwN (k + 1) s := Nat.mul_le_mul_left _ (by rw [h2]; exact h3)
      rw [Nat.mul_one] at h4
      exact Nat.le_trans h4 (Nat.le_trans h1 hb)
  · rw [inW_lo (Nat.zero_le k) d.1]
    by_cases e : 0 = k
    · rw [← e]; unfold w1N; rw [if_pos cen_0]; exact h.id0
    · rw [w1_ne e]; exact h.id0
  · by_cases e : s = k
    · subst e
      rw [hkk] at h0
      exact w1_cen h0
    · rw [inW_lo (show s ≤ k by omega) d.1, w1_ne e] at h0
      exact h.ie s (by omega) h0
  · by_cases e : s = k
    · subst e
      rw [hkk] at h0
      have := inW_ne (w := w1N d s w) h0 hbo d.1 hi
      exact ⟨fun _ => this, fun _ _ => this⟩
    · rw [inW_lo (show s ≤ k by omega) d.1, w1_ne e] at h0
      obtain ⟨f1, f2⟩ := h.if' s i (by omega) hi h0 hbo
      have up : (s ||| 2 ^ i) ≠ k → w (s ||| 2 ^ i) ≠ 0 → inW d k (w1N d k w k) (w1N d k w) d.1 (s ||| 2 ^ i) ≠ 0 := fun q1 q2 => by
        have := inW_ge (d := d) (k := k) (c := w1N d k w k) (w := w1N d k w) (s ||| 2 ^ i) d.1
        rw [w1_ne q1] at this
        omega
      refine ⟨fun q => up (by omega) (f1 (by omega)), fun q1 q2 => ?_⟩
      by_cases e2 : (s ||| 2 ^ i) = k
      · rw [e2, hkk]
        rw [e2] at f1 q2
        unfold w1N
        rw [if_pos q2]
        exact f1 (Nat.le_refl _)
      · exact up e2 (f2 (by omega) q2)
theorem ino_0 {d : SD} : InO d 0 (fun s => if s = 0 then 1 else 0) := by
  have hp := pow_pos' d.1
  have one : ∀ (h : Nat → Nat) (n : Nat), 0 < n → sgN (fun s => (if s = 0 then 1 else 0) * h s) n = h 0 := fun h n => by
    induction n with
    | zero => intro q; omega
    | succ n ih =>
      intro _
      rw [sgN]
      by_cases e : n = 0
      · subst e; rw [sgN, if_pos rfl]; omega
      · rw [ih (by omega), if_neg e]; omega
  refine ⟨fun B hB => ?_, ?_, fun s _ => ?_, ?_, fun s hs => by omega, fun s i hs => by omega⟩
  · rw [if_pos hp, one _ _ hp]
    show (if cenD d 0 = true then B 0 else 0) = B 0
    rw [if_pos cen_0]
  · rw [one _ _ hp]
    show 14 ^ (14 - popN 0 14) ≤ 14 ^ 14
    exact Nat.pow_le_pow_right (by decide) (by omega)
  · show (if s = 0 then 1 else 0) ≤ 14 ^ 14
    by_cases e : s = 0
    · rw [if_pos e]; exact Nat.pow_pos (by decide)
    · rw [if_neg e]; exact Nat.zero_le _
  · show (if 0 = 0 then 1 else 0) ≠ 0
    rw [if_pos rfl]; decide
theorem ino_way {d : SD} {w : Nat → Nat} (h : InO d (2 ^ d.1) w) : WayN d w := by
  refine ⟨h.id0, h.ie, fun s i hs hi h0 hb hc => (h.if' s i hs hi h0 hb).2 (or_lt hs hi) hc, fun B hB => ?_⟩
  have := h.ia B hB
  rw [if_neg (Nat.lt_irrefl _)] at this
  exact this
