/-! orders: the class counts forwards, the reference backwards -/
theorem vl_us {f : Nat → Int64} {k : Nat} {x : Int64} : vp_updL f k x k = x := if_pos rfl
theorem vl_un {f : Nat → Int64} {k j : Nat} {x : Int64} (h : j ≠ k) : vp_updL f k x j = f j := if_neg h
theorem lN0 {v : Nat} (h : v < 2 ^ 63) : (lN v = (0 : Int64)) = (v = 0) := propext ⟨fun e => by
  rcases Nat.eq_zero_or_pos v with q | q
  · exact q
  · exact absurd e (lN_ne0 q h), fun e => by rw [e]; rfl⟩
theorem fill_eq (σ : St) (h : gn σ 32 ≤ 16384) : ∃ g, fJ7_fill_d0a16 σ 0 = some (sbf σ 32 g) ∧ ∀ j, j < gn σ 32 → g j = 0 := by
  unfold fJ7_fill_d0a16
  obtain ⟨s', ⟨g, e1, e2⟩, e3⟩ := for_loop0 (fJ7_fill_d0a16_6 (fJ7_fill_d0a16_6_k 0 (nI (gn σ 32))) 0 (nI (gn σ 32))) (fJ7_fill_d0a16_6_k 0 (nI (gn σ 32))) (fun k s => ∃ g, s = sbf σ 32 g ∧ ∀ j, j < k → g j = 0) (gn σ 32) (by omega)
    (fun n s _ => by rw [fJ7_fill_d0a16_6, if_pos (nI_le (Nat.le_refl _) (by omega))])
    (fun n k s hk => by
      rintro ⟨g, rfl, hg⟩
      refine ⟨sbf σ 32 (vp_updL g k 0), ⟨_, rfl, fun j hj => ?_⟩, ?_⟩
      · by_cases e : j = k
        · subst e; exact vl_us
        · rw [vl_un e]; exact hg j (by omega)
      · rw [fJ7_fill_d0a16_6, if_neg (nI_ge hk (by omega)), gn_sbf, if_pos (inx (show k < gn σ 32 from hk) (by omega)), nI_clamp (by omega), sb_sbf, nI_1])
    σ ⟨gb σ 32, (sbf_self σ 32).symm, fun j hj => by omega⟩
  refine ⟨g, ?_, e2⟩
  rw [e3, e1]
  rfl
theorem ways_in {σ : St} {d : SD} (hX : StX σ d) (hlen : 2 ^ d.1 ≤ gn σ 32) (hl16 : gn σ 32 ≤ 16384) (bw : Nat) (k56 : St → Int32 → Option St) (v1 : Int32) {k : Nat} (hk : k < 2 ^ d.1) {g : Nat → Int64} {w : Nat → Nat} (hg : ∀ s, s < 2 ^ d.1 → g s = lN (w s)) (hw : w k < 2 ^ 63) : ∃ g', fX4_countWays_J90 bw k56 (sbf σ 32 g) v1 (nI k) = k56 (sbf σ 32 g') (nI (k + 1)) ∧ ∀ s, s < 2 ^ d.1 → g' s = lN (inW d k (w k) w d.1 s) := by
  have hn : d.1 ≤ 14 := hX.1
  have e1 : gi σ 10 = nI d.1 := hX.2.2.1
  have hp : 2 ^ d.1 ≤ 2 ^ 14 := Nat.pow_le_pow_right (by decide) hn
  unfold fX4_countWays_J90
  by_cases h0 : w k = 0
  · refine ⟨g, ?_, fun s hs => by rw [h0, inW_0]; exact hg s hs⟩
    obtain ⟨f0, hf0⟩ : ∃ f0, KF = f0 + 1 := ⟨KF - 1, by have := KF_ge; omega⟩
    rw [hf0, fX4_countWays_92, gn_sbf, if_pos (inx (show k < gn σ 32 by omega) (by omega)), nI_clamp (by omega)]
    rw [if_pos (show gb (sbf σ 32 g) 32 k = 0 from (hg k hk).trans (by rw [h0]; rfl))]
    unfold fX4_countWays_92_k
    rw [nI_1]
  · obtain ⟨s', ⟨g', e2, e3⟩, e4⟩ := for_loop0 (fX4_countWays_92 bw k56 (fX4_countWays_92_k bw k56 v1 (nI k)) v1 (nI k)) (fX4_countWays_92_k bw k56 v1 (nI k)) (fun i s => ∃ g', s = sbf σ 32 g' ∧ ∀ s, s < 2 ^ d.1 → g' s = lN (inW d k (w k) w i s)) d.1 (by omega)
      (fun n s => by
        rintro ⟨g', rfl, hg'⟩
        have hgk : gb (sbf σ 32 g') 32 k = lN (w k) := (hg' k hk).trans (by rw [inW_lo (Nat.le_refl k)])
        rw [fX4_countWays_92, gn_sbf, if_pos (inx (show k < gn σ 32 by omega) (by omega)), nI_clamp (by omega), hgk, if_neg (lN_ne0 (by omega) hw), show gi (sbf σ 32 g') 10 = nI d.1 from e1, if_pos (nI_le (Nat.le_refl _) (by omega))])
      (fun n i s hi => by
        rintro ⟨g', rfl, hg'⟩
        have hgk : gb (sbf σ 32 g') 32 k = lN (w k) := (hg' k hk).trans (by rw [inW_lo (Nat.le_refl k)])
        have hor := or_lt hk hi
        rw [fX4_countWays_92, gn_sbf, if_pos (inx (show k < gn σ 32 by omega) (by omega)), nI_clamp (by omega), hgk, if_neg (lN_ne0 (by omega) hw), show gi (sbf σ 32 g') 10 = nI d.1 from e1, if_neg (nI_ge hi (by omega)), borX (σ := sbf σ 32 g') (d := d) hX (by omega) hi, pow_eq (by omega), nI_or, nI_clamp (by omega), nI_1]
        simp only [obS, i01B_0]
        rw [inW]
        cases hb : borD d k i
        · rw [if_pos rfl]
          refine ⟨_, ⟨g', rfl, fun s hs => ?_⟩, rfl⟩
          rw [if_neg (by decide)]
          exact hg' s hs
        · rw [if_neg (show ¬ (true = false) by decide), if_pos (inx' (show (k ||| 2 ^ i) < gn σ 32 by omega) (by omega))]
          rw [if_pos (inx' (show k < gn σ 32 by omega) (by omega)), if_pos (inx' (show (k ||| 2 ^ i) < gn σ 32 by omega) (by omega))]
          rw [sb_sbf, show gb (sbf σ 32 g') 32 (k ||| 2 ^ i) = lN (inW d k (w k) w i (k ||| 2 ^ i)) from hg' _ hor, lN_add]
          refine ⟨_, ⟨_, rfl, fun s hs => ?_⟩, rfl⟩
          rw [if_pos rfl]
          unfold adN
          by_cases e : s = k ||| 2 ^ i
          · rw [if_pos e, e]; exact vl_us
          · rw [if_neg e, vl_un e]; exact hg' s hs)
      (sbf σ 32 g) ⟨g, rfl, hg⟩
    refine ⟨g', ?_, e3⟩
    refine Eq.trans e4 ?_
    rw [e2]
    unfold fX4_countWays_92_k
    rw [nI_1]
theorem cen_all {σ : St} {d : SD} (hX : StX σ d) : cenD d (2 ^ d.1 - 1) = true := by
  have hky : ∀ j, j < d.1 → d.2.2.2 j = -1 ∨ ∃ k, k < d.1 ∧ d.2.2.2 j = nI k := fun j hj => (hX.2.2.2.2.2.1 j hj).2
  have h0 : arN d.2.2.2 (2 ^ d.1 - 1) d.1 = 0 := by
    refine Classical.byContradiction fun q => ?_
    obtain ⟨k, hk⟩ := ne0_bit.mp q
    obtain ⟨a, j, b1, b2, b3, b4⟩ := (arN_bit hky hX.1 (2 ^ d.1 - 1) k d.1 (Nat.le_refl _)).mp hk
    have hkn : k < d.1 := by
      rcases hky j b1 with q | ⟨k', c1, c2⟩
      · exact absurd (b3.symm.trans q) (nI_ne1 (by omega))
      · have := hX.1
        have := nI_inj (by omega) (by omega) (b3.symm.trans c2)
        omega
    rw [all_bit, decide_eq_true hkn] at a
    exact absurd a (by decide)
  unfold cenD
  rw [h0, popN_0, decide_eq_true_iff]
  exact Nat.zero_le _
theorem ways_out {σ : St} {d : SD} (hX : StX σ d) (hlen : 2 ^ d.1 ≤ gn σ 32) (hl16 : gn σ 32 ≤ 16384) (bw : Nat) : ∃ g, fX4_countWays_J39 bw σ (nI (2 ^ d.1 - 1)) = some (sbf σ 32 g) ∧ WaysOK d (gn σ 32) g := by
  have hn : d.1 ≤ 14 := hX.1
  have hp : 2 ^ d.1 ≤ 2 ^ 14 := Nat.pow_le_pow_right (by decide) hn
  have hp0 := pow_pos' d.1
  have hall := cen_all hX
  unfold fX4_countWays_J39
  obtain ⟨g0, q1, q2⟩ := fill_eq σ hl16
  rw [q1]
  simp only [obS]
  rw [if_pos (show ¬ ((0 : Int32) < 0 ∨ gn (sbf σ 32 g0) 32 ≤ (0 : Int32).toNatClampNeg) from inx (i := 0) (show 0 < gn σ 32 by omega) (show gn σ 32 < 2 ^ 31 by omega)), sb_sbf]
  obtain ⟨s', ⟨g', w, e2, e3, e5⟩, e4⟩ := for_loop0 (fX4_countWays_56 bw (fX4_countWays_56_k bw (nI (2 ^ d.1 - 1))) (nI (2 ^ d.1 - 1))) (fX4_countWays_56_k bw (nI (2 ^ d.1 - 1))) (fun k s => ∃ g w, s = sbf σ 32 g ∧ InO d k w ∧ ∀ s, s < 2 ^ d.1 → g s = lN (w s)) (2 ^ d.1) (by omega)
    (fun n s _ => by rw [fX4_countWays_56, if_pos (nI_lt (by omega) (by omega))])
    (fun n k s hk => by
      rintro ⟨g, w, rfl, hI, hg⟩
      have hwk := hI.ic k hk
      have hwb : w k < 2 ^ 63 := Nat.lt_of_le_of_lt hwk (by decide)
      have hstep := ino_step hn hall hk hI
      rw [fX4_countWays_56, if_neg (nI_nlt (by omega) (by omega)), gn_sbf, if_pos (inx (show k < gn σ 32 by omega) (by omega)), nI_clamp (by omega), show gb (sbf σ 32 g) 32 k = lN (w k) from hg k hk]
      have fin : ∀ (g1 : Nat → Int64) (hg1 : ∀ s, s < 2 ^ d.1 → g1 s = lN (w1N d k w s)), ∃ s', (∃ g w, s' = sbf σ 32 g ∧ InO d (k + 1) w ∧ ∀ s, s < 2 ^ d.1 → g s = lN (w s)) ∧ fX4_countWays_J90 bw (fun σ56' v2_56' => fX4_countWays_56 bw (fX4_countWays_56_k bw (nI (2 ^ d.1 - 1))) (nI (2 ^ d.1 - 1)) n σ56' v2_56') (sbf σ 32 g1) (nI (2 ^ d.1 - 1)) (nI k) = fX4_countWays_56 bw (fX4_countWays_56_k bw (nI (2 ^ d.1 - 1))) (nI (2 ^ d.1 - 1)) n s' (nI (k + 1)) := fun g1 hg1 => by
        obtain ⟨g', r1, r2⟩ := ways_in hX hlen hl16 bw (fun σ56' v2_56' => fX4_countWays_56 bw (fX4_countWays_56_k bw (nI (2 ^ d.1 - 1))) (nI (2 ^ d.1 - 1)) n σ56' v2_56') (nI (2 ^ d.1 - 1)) hk hg1 (Nat.lt_of_le_of_lt (w1_le k) hwb)
        exact ⟨sbf σ 32 g', ⟨g', _, rfl, hstep, r2⟩, r1⟩
      by_cases h0 : w k = 0
      · rw [if_pos (show lN (w k) = 0 by rw [h0]; rfl)]
        have : w1N d k w = w := by
          unfold w1N
          by_cases c : cenD d k = true
          · rw [if_pos c]
          · rw [if_neg c]
            funext s
            unfold zrN
            by_cases e : s = k
            · rw [if_pos e, e, h0]
            · rw [if_neg e]
        exact fin g (by rw [this]; exact hg)
      · rw [if_neg (lN_ne0 (by omega) hwb), cenX (σ := sbf σ 32 g) (d := d) hX (by omega)]
        simp only [obS, i01B_0]
        cases hc : cenD d k
        · rw [if_pos rfl, if_pos (inx' (show k < gn σ 32 by omega) (by omega)), sb_sbf]
          refine fin _ (fun s hs => ?_)
          unfold w1N zrN
          rw [hc, if_neg (by decide)]
          by_cases e : s = k
          · rw [e, if_pos rfl]; exact vl_us
          · rw [if_neg e, vl_un e]; exact hg s hs
        · rw [if_neg (by decide)]
          refine fin _ (fun s hs => ?_)
          unfold w1N
          rw [hc, if_pos rfl]
          exact hg s hs)
    (sbf σ 32 (vp_updL g0 0 1)) ⟨_, _, rfl, ino_0, fun s hs => by
      by_cases e : s = 0
      · rw [e, if_pos rfl]; exact vl_us
      · rw [if_neg e, vl_un e]; exact q2 s (by omega)⟩
  refine ⟨g', ?_, hlen, w, ino_way e3, fun s hs => ⟨e5 s hs, Nat.lt_of_le_of_lt (e3.ic s hs) (by decide)⟩⟩
  refine Eq.trans e4 ?_
  rw [e2]
  rfl
theorem sn_self (σ : St) (k : Nat) : sn σ k (gn σ k) = σ := by
  simp only [sn, gn]
  refine Prod.ext rfl (Prod.ext rfl (Prod.ext rfl (Prod.ext rfl (funext fun j => ?_))))
  show (if j = k then σ.2.2.2.2 k else σ.2.2.2.2 j) = σ.2.2.2.2 j
  by_cases h : j = k <;> simp [h]
theorem sbf_sbf (σ : St) (k : Nat) (f g : Nat → Int64) : sbf (sbf σ k f) k g = sbf σ k g := by
  simp only [sbf]
  refine Prod.ext rfl (Prod.ext rfl (Prod.ext rfl (Prod.ext (funext fun j => ?_) rfl)))
  show (if j = k then g else if j = k then f else σ.2.2.2.1 j) = if j = k then g else σ.2.2.2.1 j
  by_cases h : j = k <;> simp [h]
theorem sbf_sn (σ : St) (k j n : Nat) (g : Nat → Int64) : sbf (sn σ j n) k g = sn (sbf σ k g) j n := rfl
/-- how long ways must be -/
def lenW (σ : St) (n : Nat) : Nat := if gn σ 32 < 2 ^ n then 2 ^ n else gn σ 32
theorem cw_new {σ : St} {d : SD} (hX : StX σ d) (h0 : gi σ 16 = 0) (hl16 : gn σ 32 ≤ 16384) (bw : Nat) (hb : gn σ 32 < 2 ^ d.1 → 2 ^ d.1 ≤ bw) : ∃ g, fX4_countWays bw σ = some (sn (sbf (si σ 16 1) 32 g) 32 (lenW σ d.1)) ∧ WaysOK d (lenW σ d.1) g := by
  have hn : d.1 ≤ 14 := hX.1
  have e1 : gi σ 10 = nI d.1 := hX.2.2.1
  have hp : 2 ^ d.1 ≤ 2 ^ 14 := Nat.pow_le_pow_right (by decide) hn
  have hp0 := pow_pos' d.1
  have hX1 : StX (si σ 16 1) d := hX
  unfold fX4_countWays fX8_all
  rw [if_pos h0, show gi (si σ 16 1) 10 = nI d.1 from e1, all_eq (by omega)]
  simp only [obS]
  unfold lenW
  by_cases c : gn σ 32 < 2 ^ d.1
  · have hX2 : StX (sn (sbf (si σ 16 1) 32 (fun _ => 0)) 32 (2 ^ d.1)) d := hX
    rw [if_neg (show ¬ nI (2 ^ d.1 - 1) < nI (gn (si σ 16 1) 32) from nI_nlt (show gn σ 32 ≤ 2 ^ d.1 - 1 by omega) (by omega)), nI_1, show 2 ^ d.1 - 1 + 1 = 2 ^ d.1 by omega, nI_clamp (by omega), if_pos c]
    have := hb c
    rw [if_pos ⟨nI_pos (by omega), by omega⟩]
    obtain ⟨g, r1, r2⟩ := ways_out hX2 (Nat.le_refl _) (show 2 ^ d.1 ≤ 16384 by omega) bw
    exact ⟨g, by rw [r1, sbf_sn, sbf_sbf], r2⟩
  · rw [if_pos (show nI (2 ^ d.1 - 1) < nI (gn (si σ 16 1) 32) from nI_lt (show 2 ^ d.1 - 1 < gn σ 32 by omega) (by show gn σ 32 < _; omega)), if_neg c]
    obtain ⟨g, r1, r2⟩ := ways_out hX1 (show 2 ^ d.1 ≤ gn σ 32 by omega) hl16 bw
    exact ⟨g, by rw [r1, show sn (sbf (si σ 16 1) 32 g) 32 (gn σ 32) = sbf (si σ 16 1) 32 g from sn_self (sbf (si σ 16 1) 32 g) 32], r2⟩
theorem len16 {a : Nat} (h : a ≤ 14) : 2 ^ a ≤ 16384 := (Nat.pow_le_pow_right (by decide) h : 2 ^ a ≤ 2 ^ 14)
/-- ways are counted, and nothing else is changed -/
theorem cw_rel {σ τ : St} (h : Rel σ τ) (bw : Nat) (hb : gn σ 32 < 2 ^ (sdX σ).1 → 2 ^ (sdX σ).1 ≤ bw) : ∃ σ1, fX4_countWays bw σ = some σ1 ∧ Rel σ1 τ ∧ gi σ1 16 = 1 ∧ gn σ1 32 = lenW σ (sdX σ).1 ∧ gn σ1 33 = gn σ 33 ∧ (∀ j, j ≠ 16 → gi σ1 j = gi σ j) ∧ ga σ1 = ga σ ∧ sdX σ1 = sdX σ ∧ tdX σ1 = tdX σ := by
  obtain ⟨hA, ⟨hs, hk, ht, hcal⟩, ⟨hw1, hw2⟩, hp, hm, hz, ⟨a, b, ha, hb', l1, l2⟩⟩ := id h
  obtain ⟨x1, x2, x3⟩ := st_get hs hk
  have ha16 := len16 ha
  rcases hw1 with q | q
  · obtain ⟨g, r1, r2⟩ := cw_new x1 q (by omega) bw hb
    refine ⟨_, r1, ⟨hA, ⟨hs, hk, ht, hcal⟩, ⟨Or.inr rfl, fun _ => r2⟩, hp, hm, hz, ?_⟩, rfl, rfl, rfl, fun j hj => if_neg hj, rfl, rfl, rfl⟩
    show ∃ a b, a ≤ 14 ∧ b ≤ 14 ∧ lenW σ (sdX σ).1 = 2 ^ a ∧ gn σ 33 = 5 * 2 ^ b
    unfold lenW
    by_cases c : gn σ 32 < 2 ^ (sdX σ).1
    · rw [if_pos c]; exact ⟨_, b, x1.1, hb', rfl, l2⟩
    · rw [if_neg c]; exact ⟨a, b, ha, hb', l1, l2⟩
  · refine ⟨σ, ?_, h, q, ?_, rfl, fun _ _ => rfl, rfl, rfl, rfl⟩
    · unfold fX4_countWays
      rw [if_neg (by rw [q]; decide)]
    · have := (hw2 q).1
      unfold lenW
      rw [if_neg (by omega)]
theorem dw_m {k : Nat} (h : k < 2 ^ 31) : nI k - 1 = dwN k := by
  cases k with
  | zero => rfl
  | succ k => rw [← nI_1, show nI k + 1 - 1 = nI k by rw [Int32.add_sub_cancel]]; rfl
theorem dw_a {k : Nat} (h : k < 2 ^ 31) : nI k + (-1 : Int32) = dwN k := by
  rw [← dw_m h, Int32.sub_eq_add_neg]
theorem back_in {τ : St} {d : SD} (hM : StM τ d) (k20 : St → Int32 → Option (Int64 × St)) (v1 : Int32) {k : Nat} (hk : k < 2 ^ d.1) {g : Nat → Int64} {B : Nat → Nat} (hg : ∀ s, k < s → s < 2 ^ d.1 → g s = lN (B s)) : fX10_orders_29 k20 (fX10_orders_29_k k20 (sbf τ 17 g) v1 (nI k)) (sbf τ 17 g) v1 (nI k) KF 0 0 = k20 (sbf τ 17 (vp_updL g k (lN (sgN (fun i => if mayD d k i = true then B (k ||| 2 ^ i) else 0) d.1)))) (dwN k) := by
  have hn : d.1 ≤ 14 := hM.1
  have e1 : gi τ 9 = nI d.1 := hM.2.2.1
  have hp : 2 ^ d.1 ≤ 2 ^ 14 := Nat.pow_le_pow_right (by decide) hn
  obtain ⟨s', e2, e3⟩ := for_loop0 (fX10_orders_29 k20 (fX10_orders_29_k k20 (sbf τ 17 g) v1 (nI k)) (sbf τ 17 g) v1 (nI k)) (fX10_orders_29_k k20 (sbf τ 17 g) v1 (nI k)) (fun i v => v = lN (sgN (fun i => if mayD d k i = true then B (k ||| 2 ^ i) else 0) i)) d.1 (by omega)
    (fun n s _ => by rw [fX10_orders_29, show gi (sbf τ 17 g) 9 = nI d.1 from e1, if_pos (nI_le (Nat.le_refl _) (by omega))])
    (fun n i s hi hs => by
      subst hs
      refine ⟨_, rfl, ?_⟩
      have hor := or_lt hk hi
      rw [fX10_orders_29, show gi (sbf τ 17 g) 9 = nI d.1 from e1, if_neg (nI_ge hi (by omega)), mayM (τ := sbf τ 17 g) (d := d) hM hk hi, pow_eq (by omega), nI_or, nI_clamp (by omega), nI_1, sgN, ← lN_add]
      simp only [obS, i01B_0]
      cases hb : mayD d k i
      · rw [if_pos rfl, if_neg (by decide)]
        rfl
      · rw [if_neg (by decide), if_pos rfl, if_pos (inx' (show (k ||| 2 ^ i) < 16384 by omega) (by decide))]
        rw [show gb (sbf τ 17 g) 17 (k ||| 2 ^ i) = lN (B (k ||| 2 ^ i)) from hg _ (may_gt hb) hor])
    (0 : Int64) rfl
  refine Eq.trans e3 ?_
  subst e2
  unfold fX10_orders_29_k
  rw [if_pos (inx (show k < 16384 by omega) (by decide)), nI_clamp (by omega), sb_sbf, dw_a (by omega)]
theorem back_out {τ : St} {d : SD} (hM : StM τ d) : ∀ (k f : Nat) (g : Nat → Int64) (B : Nat → Nat), k < f → k ≤ 2 ^ d.1 - 1 → (∀ s, k ≤ s → s < 2 ^ d.1 → g s = lN (B s)) → B (2 ^ d.1 - 1) = 1 → (∀ s, k ≤ s → s < 2 ^ d.1 - 1 → B s = sgN (fun i => if mayD d s i = true then B (s ||| 2 ^ i) else 0) d.1) → ∃ g' B', fX10_orders_20 (fX10_orders_20_k (nI (2 ^ d.1 - 1))) (nI (2 ^ d.1 - 1)) f (sbf τ 17 g) (dwN k) = some (lN (B' 0), sbf τ 17 g') ∧ BwOK d B' := by
  have hn : d.1 ≤ 14 := hM.1
  have hp : 2 ^ d.1 ≤ 2 ^ 14 := Nat.pow_le_pow_right (by decide) hn
  have hp0 := pow_pos' d.1
  intro k
  induction k with
  | zero =>
    intro f g B hf hk h1 h2 h3
    cases f with
    | zero => omega
    | succ f =>
      refine ⟨g, B, ?_, h2, fun s hs => h3 s (by omega) hs⟩
      rw [fX10_orders_20, if_pos (show dwN 0 < 0 by decide)]
      unfold fX10_orders_20_k
      rw [if_pos (show ¬ ((0 : Int32) < 0 ∨ 16384 ≤ (0 : Int32).toNatClampNeg) by decide)]
      rw [show gb (sbf τ 17 g) 17 (0 : Int32).toNatClampNeg = lN (B 0) from h1 0 (by omega) (by omega)]
  | succ k ih =>
    intro f g B hf hk h1 h2 h3
    cases f with
    | zero => omega
    | succ f =>
      rw [fX10_orders_20, show dwN (k + 1) = nI k from rfl, if_neg (nI_pos (by omega)), back_in hM _ _ (show k < 2 ^ d.1 by omega) (fun s q1 q2 => h1 s (by omega) q2)]
      have hne : ∀ i, mayD d k i = true → (k ||| 2 ^ i) ≠ k := fun i hi => by have := may_gt hi; omega
      refine ih f _ (fun s => if s = k then sgN (fun i => if mayD d k i = true then B (k ||| 2 ^ i) else 0) d.1 else B s) (by omega) (by omega) (fun s q1 q2 => ?_) ?_ (fun s q1 q2 => ?_)
      · by_cases e : s = k
        · subst e; rw [if_pos rfl]; exact vl_us
        · rw [if_neg e, vl_un e]; exact h1 s (by omega) q2
      · rw [if_neg (by omega)]; exact h2
      · have hgt : ∀ s, k ≤ s → sgN (fun i => if mayD d s i = true then (if (s ||| 2 ^ i) = k then sgN (fun i => if mayD d k i = true then B (k ||| 2 ^ i) else 0) d.1 else B (s ||| 2 ^ i)) else 0) d.1 = sgN (fun i => if mayD d s i = true then B (s ||| 2 ^ i) else 0) d.1 := fun s hs => sg_congr d.1 (fun i _ => by
          show (if mayD d s i = true then (if (s ||| 2 ^ i) = k then sgN (fun i => if mayD d k i = true then B (k ||| 2 ^ i) else 0) d.1 else B (s ||| 2 ^ i)) else 0) = if mayD d s i = true then B (s ||| 2 ^ i) else 0
          by_cases c : mayD d s i = true
          · have := may_gt c
            rw [if_pos c, if_pos c, if_neg (by omega)]
          · rw [if_neg c, if_neg c])
        rw [hgt s q1]
        by_cases e : s = k
        · subst e; rw [if_pos rfl]
        · rw [if_neg e]; exact h3 s (by omega) q2
theorem e_orders {σ τ : St} (h : Rel σ τ) (bw : Nat) (hb : gn σ 32 < 2 ^ (sdX σ).1 → 2 ^ (sdX σ).1 ≤ bw) : ∃ r σ' τ', fX9_orders bw σ = some (r, σ') ∧ fX10_orders τ = some (r, τ') ∧ Rel σ' τ' ∧ gn σ' 32 = lenW σ (sdX σ).1 ∧ gn σ' 33 = gn σ 33 := by
  obtain ⟨σ1, c1, c2, c3, c4, c5, c6, c7, c8, c9⟩ := cw_rel h bw hb
  obtain ⟨hA, ⟨hs, hk, ht, hcal⟩, ⟨hw1, hw2⟩, hp, hm, hz, hl⟩ := id c2
  obtain ⟨x1, x2, x3⟩ := st_get hs hk
  obtain ⟨w1, wn, w2, w3⟩ := hw2 c3
  have hn := x1.1
  have hpn : 2 ^ (sdX σ1).1 ≤ 2 ^ 14 := Nat.pow_le_pow_right (by decide) hn
  have hp0 := pow_pos' (sdX σ1).1
  obtain ⟨g', B', q1, q2⟩ := back_out x2 (2 ^ (sdX σ1).1 - 1) KF (vp_updL (gb τ 17) (2 ^ (sdX σ1).1 - 1) 1) (fun _ => 1) (by have := KF_ge; omega) (Nat.le_refl _) (fun s a b => by rw [show s = 2 ^ (sdX σ1).1 - 1 by omega]; exact vl_us) rfl (fun s a b => by omega)
  refine ⟨lN (B' 0), σ1, sbf τ 17 g', ?_, ?_, ⟨hA, ⟨hs, hk, ht, hcal⟩, ⟨hw1, hw2⟩, hp, hm, hz, hl⟩, c4, c5⟩
  · unfold fX9_orders fX4_ordersOfAll fX8_all
    rw [c1]
    simp only [obS]
    rw [x1.2.2.1, all_eq (by omega), nI_clamp (by omega), if_pos (inx' (show 2 ^ (sdX σ1).1 - 1 < gn σ1 32 by omega) (by obtain ⟨a, b, ha, hb', l1, l2⟩ := hl; have := len16 ha; omega))]
    simp only [obS]
    rw [(w3 (2 ^ (sdX σ1).1 - 1) (by omega)).1, w2.2.2.2 B' q2]
  · unfold fX10_orders
    rw [x2.2.2.1, all_eq (by omega), if_pos (inx (show 2 ^ (sdX σ1).1 - 1 < 16384 by omega) (by decide)), nI_clamp (by omega), dw_m (by omega)]
    exact q1
