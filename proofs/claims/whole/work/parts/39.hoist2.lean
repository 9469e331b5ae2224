theorem rel_spend {σ τ : St} (h : Rel σ τ) {n : Nat} (m cost : Nat) (e : gi σ 6 = nI n) (hn : n ≤ 8) : Rel (saf σ 11 (mapN (ga σ 11) (speN (ga σ 11) m cost) n)) (saf τ 2 (mapN (ga τ 2) (speN (ga τ 2) m cost) n)) := by
  obtain ⟨⟨hD, ⟨n', hn', e1, e2, hw⟩, hA⟩, hB, hC⟩ := h
  have en : n' = n := nI_inj (by omega) (by omega) (e1.symm.trans e)
  subst en
  refine ⟨⟨hD, ⟨n', hn', e1, e2, fun j hj => ?_⟩, hA⟩, hB, hC⟩
  obtain ⟨w, b, a1, a2, a3, a4, a5, a6⟩ := hw j hj
  refine ⟨w, b - bit m j * cost, a1, by omega, a3, a4, ?_, ?_⟩
  · show mapN _ _ n' j = _
    rw [mapN_in _ _ hj]
    unfold speN
    rw [a5, nI_clamp (show b < 2 ^ 31 by omega)]
  · show mapN _ _ n' j = _
    rw [mapN_in _ _ hj]
    unfold speN
    rw [a6, nI_clamp (show b < 2 ^ 31 by omega)]
theorem steps_mix {σ τ : St} (hD : RDrum σ τ) {h q : Nat} (hh : h ≤ 20000) (e : fX2_stepsFor σ (nI h) = some (nI q)) : fX10_stepsFor τ (nI h) = some (nI q) := by
  obtain ⟨g, s, a, f, t, T, _, ⟨h1, h2, h3, h4⟩, ⟨h5, h6, h7, h8⟩, _, ⟨h9, h10, h11⟩, ⟨h12, h13, h14, h15⟩⟩ := hD
  obtain ⟨q', _, q1, q2⟩ := steps_both (h := h) h1 h5 h9 h12 h2 h6 h10 h13 h3 h4 h7 h8 h11 h14 h15 hh
  rw [q2, ← q1, e]
/-- the end of a hoist: breath is spent -/
theorem hoist_end {σ τ : St} (h : Rel σ τ) {n m q k hh : Nat} (e1 : gi σ 6 = nI n) (hn : n ≤ 8) (hm : m < 2 ^ 31) (hk : k ≤ 50000) (hh' : hh ≤ 20000) (hq : fX2_stepsFor σ (nI hh) = some (nI q)) (hq' : q ≤ 121000) (hb : ∀ j, j < n → bit m j = 1 → q * (1 + k / 1000) ≤ (ga σ 11 j).toNatClampNeg) (v2 : Int32) : Two ((fX9_costOf (nI k) (nI q)).bind (fun r125 => (fX1_spend σ (nI m) r125).bind (fun q128 => some (nI q, q128)))) (fX10_hoist_J83 τ (nI m) v2 (nI k) (nI hh)) := by
  obtain ⟨⟨hD, ⟨n', hn', e1', e2, hw⟩, hA⟩, hB, hC⟩ := id h
  have en : n' = n := nI_inj (by omega) (by omega) (e1'.symm.trans e1)
  subst en
  have hcost : ∀ j, j < n' → ∃ w b : Nat, b ≤ 5000 ∧ ga σ 11 j = nI b ∧ ga τ 2 j = nI b ∧ bit m j * (q * (1 + k / 1000)) ≤ b := fun j hj => by
    obtain ⟨w, b, a1, a2, a3, a4, a5, a6⟩ := hw j hj
    refine ⟨w, b, a2, a5, a6, ?_⟩
    have h1 := bit_lt m j
    by_cases h2 : bit m j = 1
    · have h3 := hb j hj h2
      rw [a5, nI_clamp (show b < 2 ^ 31 by omega)] at h3
      rw [h2, Nat.one_mul]
      exact h3
    · rw [show bit m j = 0 by omega, Nat.zero_mul]
      omega
  unfold fX9_costOf fX10_hoist_J83
  rw [div1000 hk, pk_mul, steps_mix hD hh' hq]
  simp only [obS]
  rw [spendX e1 hn hm (fun j hj => by obtain ⟨w, b, a1, a2, a3, a4⟩ := hcost j hj; exact ⟨b, a1, a2, a4⟩), spendM hk e2 hn hm (fun j hj => by obtain ⟨w, b, a1, a2, a3, a4⟩ := hcost j hj; exact ⟨b, a1, a3, a4⟩)]
  simp only [obS]
  exact Two.mk' (rel_spend h m _ e1 hn)
theorem e_hoist {σ τ : St} (h : Rel σ τ) (a v b c : Int32) : Two (fX9_hoist σ a v b c) (fX10_hoist τ a v b c) := by
  obtain ⟨⟨hD, ⟨n, hn, e1, e2, hw⟩, hro, hA⟩, hB, hC⟩ := id h
  obtain ⟨nr, hnr, r1, r2, hrw, hrz⟩ := id hro
  have h1 : 2 ^ n ≤ 2 ^ 8 := Nat.pow_le_pow_right (by decide) hn
  unfold fX9_hoist fX10_hoist
  rw [everyone_eq e1 hn]
  simp only [areMen_eq e2 hn, isLift_eq, within_eq, obS, i10, nI_toInt (show 2 ^ n - 1 < 2 ^ 31 by omega), r1, nm1 nr (show nr < 2 ^ 31 by omega), noRope_eq τ v (show nr ≤ 100 by omega) r2, i01]
  refine Two.ite (fun _ => Two.same h _) (fun c1 => ?_)
  obtain ⟨m, rfl, l1, u1⟩ := t_nat (a := 0) (by decide) c1
  have hm1 : (-1 : Int32).toInt = -1 := rfl
  by_cases good : (-1 : Int32).toInt ≤ v.toInt ∧ v.toInt ≤ (nr : Int) - 1
  · rw [if_neg (not_not_intro good)]
    have eM : (if v = (-1 : Int32) then fX10_hoist_J21 τ (nI m) v b c else if 0 ≤ v.toInt ∧ v.toInt ≤ (nr : Int) - 1 then fX10_hoist_J21 τ (nI m) v b c else some (-2, τ)) = fX10_hoist_J21 τ (nI m) v b c := by
      by_cases e : v = -1
      · rw [if_pos e]
      · rw [if_neg e, if_pos]
        have : v.toInt ≠ -1 := fun q => e (Int32.toInt_inj.mp (by rw [q, hm1]))
        omega
    rw [eM]
    unfold fX10_hoist_J21
    simp only [isLoadM_eq, isHeight_eq, obS, i10]
    refine Two.ite2 (fun _ => Two.same h _) (fun c2 c3 => ?_)
    obtain ⟨k, rfl, l2, u2⟩ := t_nat' (by decide) c2
    obtain ⟨hh, rfl, l3, u3⟩ := t_nat' (by decide) c3
    obtain ⟨q, r, q1, q2, q3, q4, q5, q6, q7⟩ := abil (m := m) (k := k) (h := hh) hD e1 e2 hn (by omega) (by omega) (by omega) hw
    rw [q3]
    simp only [obS, q5, q6]
    by_cases hr : r = 1
    · subst hr
      rw [if_pos (show nI 1 = (1 : Int32) from rfl), if_pos (show nI 1 = (1 : Int32) from rfl)]
      by_cases e : v = -1
      · subst e
        rw [if_pos rfl, if_pos (show (-1 : Int32) < 0 by decide)]
        unfold fX10_hoist_J67
        rw [if_pos (show (-1 : Int32) < 0 by decide)]
        exact hoist_end h e1 hn (by omega) (by omega) (by omega) q3 q1 (q7 rfl) (-1)
      · have hne : v.toInt ≠ -1 := fun q => e (Int32.toInt_inj.mp (by rw [q, hm1]))
        obtain ⟨j, rfl, l4, u4⟩ := t_nat' (a := 0) (b := (nr : Int) - 1) (by decide) ⟨by omega, good.2⟩
        rw [if_neg e, if_neg (show ¬ nI j < (0 : Int32) from nI_pos (by omega))]
        simp only [if_pos (inx' (show j < 6 by omega) (by decide)), if_pos (inx' (show j < 7 by omega) (by decide)), nI_clamp (show j < 2 ^ 31 by omega)]
        rw [← (show ga σ 15 j = ga τ 6 j by obtain ⟨s, w, h1, h2, h3, h4, h5, h6, h7, h8, h9, h10, h11⟩ := hrw j (by omega); exact h9)]
        refine Two.ite (fun _ => ?_) (fun _ => Two.same h _)
        unfold fX10_hoist_J67
        rw [if_neg (show ¬ nI j < (0 : Int32) from nI_pos (by omega))]
        obtain ⟨σ', τ', r', s1, s2, s3, s4, s5, s6⟩ := ropes_pull hro r1 hnr (show j < nr by omega) k (by omega) (by omega)
        rw [s2, s3]
        simp only [obS]
        have hrel := rel_pull h s4 s5 s6
        rcases s1 with rfl | rfl
        · rw [if_pos rfl, if_pos rfl]
          exact Two.mk' hrel
        · rw [if_neg (show ¬ (1 : Int32) = 0 by decide), if_neg (show ¬ (1 : Int32) = 0 by decide)]
          rcases s5 with ⟨u, rfl⟩ | rfl
          · exact hoist_end hrel e1 hn (by omega) (by omega) (by omega) (by
              have hD' : RDrum (sa σ 13 j u) τ := hD
              obtain ⟨g, s, a, f, t, T, _, ⟨x1, x2, x3, x4⟩, ⟨x5, x6, x7, x8⟩, _, ⟨x9, x10, x11⟩, ⟨x12, x13, x14, x15⟩⟩ := hD'
              obtain ⟨q', _, y1, y2⟩ := steps_both (h := hh) x1 x5 x9 x12 x2 x6 x10 x13 x3 x4 x7 x8 x11 x14 x15 (by omega)
              rw [y1, ← y2, q4]) q1 (q7 rfl) (nI j)
          · exact hoist_end hrel e1 hn (by omega) (by omega) (by omega) (by
              have hD' : RDrum (sa σ 15 j 1) τ := hD
              obtain ⟨g, s, a, f, t, T, _, ⟨x1, x2, x3, x4⟩, ⟨x5, x6, x7, x8⟩, _, ⟨x9, x10, x11⟩, ⟨x12, x13, x14, x15⟩⟩ := hD'
              obtain ⟨q', _, y1, y2⟩ := steps_both (h := hh) x1 x5 x9 x12 x2 x6 x10 x13 x3 x4 x7 x8 x11 x14 x15 (by omega)
              rw [y1, ← y2, q4]) q1 (q7 rfl) (nI j)
    · rw [if_neg (show ¬ nI r = (1 : Int32) from fun q => hr (nI_inj (by omega) (by decide) (show nI r = nI 1 from q))), if_neg (show ¬ nI r = (1 : Int32) from fun q => hr (nI_inj (by omega) (by decide) (show nI r = nI 1 from q)))]
      exact Two.same h _
  · rw [if_pos good]
    have e : ¬ v = -1 := fun q => good (by rw [q]; exact ⟨Int.le_refl _, by rw [hm1]; omega⟩)
    rw [if_neg e, if_neg (fun q => good ⟨by rw [hm1]; omega, q.2⟩)]
    exact Two.same h _
/-! the fewest men -/
theorem leaner_eq {σ : St} {n x y : Nat} (e : gi σ 6 = nI n) (hn : n ≤ 8) (hx : x < 256) (hy : y < 256) (hw : ∀ j, j < n → ∃ w : Nat, w ≤ 150 ∧ ga σ 10 j = nI w) : fX1_isLeaner σ (nI x) (nI y) = some (if popN x 20 < popN y 20 ∨ popN x 20 = popN y 20 ∧ wsN (ga σ 10) x n < wsN (ga σ 10) y n then 1 else 0) := by
  have p1 := popN_le x 20
  have p2 := popN_le y 20
  have w1 := wsN_le (m := x) n hw
  have w2 := wsN_le (m := y) n hw
  have hs : (nI (popN x 20) - nI (popN y 20)).toInt = (popN x 20 : Int) - popN y 20 := by
    rw [sub_t] <;> rw [nI_toInt (by omega), nI_toInt (by omega)] <;> omega
  unfold fX1_isLeaner
  rw [bc_eq x (by omega), bc_eq y (by omega), wX_eq e hn (by omega) hw, wX_eq e hn (by omega) hw]
  simp only [obS, lt_toInt, eq_toInt, hs, show (0 : Int32).toInt = 0 from rfl, le_toInt, nI_toInt (show wsN (ga σ 10) x n < 2 ^ 31 by omega), nI_toInt (show wsN (ga σ 10) y n < 2 ^ 31 by omega)]
  by_cases c1 : (popN x 20 : Int) - popN y 20 < 0
  · rw [if_pos c1, if_pos (Or.inl (by omega))]
  · rw [if_neg c1]
    by_cases c2 : (popN x 20 : Int) - popN y 20 = 0
    · rw [if_pos c2]
      by_cases c3 : (wsN (ga σ 10) y n : Int) ≤ wsN (ga σ 10) x n
      · rw [if_pos c3, if_neg (by omega)]
      · rw [if_neg c3, if_pos (Or.inr ⟨by omega, by omega⟩)]
    · rw [if_neg c2, if_neg (by omega)]
theorem e_fewest {σ τ : St} (h : Rel σ τ) (b c : Int32) : One (fX9_fewest σ b c) (fX10_fewest τ b c) := by
  obtain ⟨⟨hD, ⟨n, hn, e1, e2, hw⟩, _⟩, _⟩ := h
  have h1 : 2 ^ n ≤ 2 ^ 8 := Nat.pow_le_pow_right (by decide) hn
  have hp := pow_pos' n
  have hwX : ∀ j, j < n → ∃ w : Nat, w ≤ 150 ∧ ga σ 10 j = nI w := fun j hj => by obtain ⟨w, b, a1, a2, a3, a4, a5, a6⟩ := hw j hj; exact ⟨w, a1, a3⟩
  have hwM : ∀ j, j < n → ∃ w : Nat, w ≤ 150 ∧ ga τ 1 j = nI w := fun j hj => by obtain ⟨w, b, a1, a2, a3, a4, a5, a6⟩ := hw j hj; exact ⟨w, a1, a4⟩
  have hws : ∀ m, wsN (ga τ 1) m n = wsN (ga σ 10) m n := fun m => wsN_congr n (fun j hj => by obtain ⟨w, b, a1, a2, a3, a4, a5, a6⟩ := hw j hj; rw [a3, a4])
  unfold fX9_fewest fX10_fewest
  simp only [isLoadM_eq, isHeight_eq, isLift_eq, obS, i10]
  refine One.ite2 (fun _ => One.same _) (fun c2 c3 => ?_)
  obtain ⟨k, rfl, l2, u2⟩ := t_nat' (by decide) c2
  obtain ⟨hh, rfl, l3, u3⟩ := t_nat' (by decide) c3
  obtain ⟨q, r0, q1, q2, q3, _⟩ := abil (m := 0) (k := k) (h := hh) hD e1 e2 hn (by omega) (by omega) (by omega) hw
  rw [q3, everyone_eq e1 hn]
  simp only [obS]
  have key : ∀ (d x f : Nat) (best : Int32), x + d = 2 ^ n → d < f → (best = -1 ∨ ∃ y, y < 2 ^ n ∧ best = nI y) → One (fX9_fewest_35 (fX9_fewest_35_k σ (nI k) (nI hh) (nI q) (nI (2 ^ n - 1))) σ (nI k) (nI hh) (nI q) (nI (2 ^ n - 1)) f best (nI x)) (fX10_fewest_22 (fX10_fewest_22_k τ (nI k) (nI hh)) τ (nI k) (nI hh) f best (nI x)) := by
    intro d
    induction d with
    | zero =>
      intro x f best g1 g2 g3
      cases f with
      | zero => omega
      | succ f =>
        rw [fX9_fewest_35, fX10_fewest_22, e2, pow_eq (by omega), if_pos (nI_lt (by omega) (by omega)), if_pos (nI_le (by omega) (by omega))]
        exact One.same _
    | succ d ih =>
      intro x f best g1 g2 g3
      cases f with
      | zero => omega
      | succ f =>
        obtain ⟨q', r, p1, p2, p3, p4, p5, p6, _⟩ := abil (m := x) (k := k) (h := hh) hD e1 e2 hn (by omega) (by omega) (by omega) hw
        have eq : nI q' = nI q := Option.some.inj (p3.symm.trans q3)
        rw [eq] at p5
        rw [fX9_fewest_35, fX10_fewest_22, e2, pow_eq (by omega), if_neg (nI_nlt (by omega) (by omega)), if_neg (nI_ge (by omega) (by omega)), p5, p6]
        simp only [obS, nI_1]
        refine One.ite (fun _ => ?_) (fun _ => ih (x + 1) f best (by omega) (by omega) g3)
        rcases g3 with rfl | ⟨y, y1, rfl⟩
        · rw [if_pos rfl, if_pos (show (-1 : Int32) < 0 by decide)]
          exact ih (x + 1) f (nI x) (by omega) (by omega) (Or.inr ⟨x, by omega, rfl⟩)
        · have pp1 := popN_le x 20
          have pp2 := popN_le y 20
          have w1 := wsN_le (m := x) n hwX
          have w2 := wsN_le (m := y) n hwX
          rw [if_neg (show ¬ nI y = (-1 : Int32) from fun z => absurd (show (0 : Int32) ≤ -1 by rw [← z]; exact nI_pos' (by omega)) (by decide)), if_neg (show ¬ nI y < (0 : Int32) from nI_pos (by omega)), leaner_eq e1 hn (by omega) (by omega) hwX, ones_eq (by omega), ones_eq (by omega), wM_eq e2 hn (by omega) hwM, wM_eq e2 hn (by omega) hwM, hws, hws]
          simp only [obS, i10, nI_ltI (show popN x 20 < 2 ^ 31 by omega) (show popN y 20 < 2 ^ 31 by omega), nI_eq (show popN x 20 < 2 ^ 31 by omega) (show popN y 20 < 2 ^ 31 by omega), nI_leI (show wsN (ga σ 10) y n < 2 ^ 31 by omega) (show wsN (ga σ 10) x n < 2 ^ 31 by omega)]
          have ihx := ih (x + 1) f (nI x) (by omega) (by omega) (Or.inr ⟨x, by omega, rfl⟩)
          have ihy := ih (x + 1) f (nI y) (by omega) (by omega) (Or.inr ⟨y, y1, rfl⟩)
          by_cases d1 : popN x 20 < popN y 20
          · rw [if_neg (not_not_intro (Or.inl d1)), if_pos d1]; exact ihx
          · rw [if_neg d1]
            by_cases d2 : popN x 20 = popN y 20
            · rw [if_pos d2]
              by_cases d3 : wsN (ga σ 10) y n ≤ wsN (ga σ 10) x n
              · rw [if_pos (by omega), if_pos d3]; exact ihy
              · rw [if_neg (not_not_intro (Or.inr ⟨d2, by omega⟩)), if_neg d3]; exact ihx
            · rw [if_neg d2, if_pos (by omega)]; exact ihy
  exact key (2 ^ n - 1) 1 KF (-1) (by omega) (Nat.lt_of_lt_of_le (by omega) KF_ge) (Or.inl rfl)
