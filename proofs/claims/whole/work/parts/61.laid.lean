/-! the order of laying, laid, end -/
theorem ordLoopX {σ : St} {d : SD} {t : TD} {D : Nat → Nat → Nat} (hn : d.1 ≤ 14) {kn : Nat} (hkn : kn ≤ 70) (h15 : gi σ 15 = nI kn) (ha : ∀ j, j < kn → ga σ 35 j = nI (actN d t D j) ∧ actN d t D j < 200) (hc : ∀ j, j ≤ kn → (ofN d t D j).1 ≤ d.1) (bw bc : Nat) (K : St → Int32 → Int32 → Option St) : ∃ o, fX4_orderInto_29 bw bc K 1 KF σ 0 0 = K (saf σ 39 o) (nI (ofN d t D kn).1) (nI kn) ∧ ∀ x, x < (ofN d t D kn).1 → o x = nI ((ofN d t D kn).2 x) := by
  obtain ⟨s', ⟨o, a1, a2, a3⟩, a4⟩ := for_loop0 (fun n (s : St × Int32) i => fX4_orderInto_29 bw bc K 1 n s.1 s.2 i) (fun s i => K s.1 s.2 i) (fun j (s : St × Int32) => ∃ o, s.1 = saf σ 39 o ∧ s.2 = nI (ofN d t D j).1 ∧ ∀ x, x < (ofN d t D j).1 → o x = nI ((ofN d t D j).2 x)) kn (by omega)
    (fun n s => by
      rintro ⟨o, q1, q2, _⟩
      show fX4_orderInto_29 bw bc K 1 (n + 1) s.1 s.2 (nI kn) = K s.1 s.2 (nI kn)
      rw [q1, fX4_orderInto_29, if_neg (show ¬ (1 : Int32) = 0 by decide), show gi (saf σ 39 o) 15 = nI kn from h15, if_pos (nI_le (Nat.le_refl _) (by omega))])
    (fun n j s hj => by
      obtain ⟨st, v⟩ := s
      rintro ⟨o, q1, q2, hI⟩
      have q1 : st = saf σ 39 o := q1
      have q2 : v = nI (ofN d t D j).1 := q2
      subst q1 q2
      obtain ⟨h1, h2⟩ := ha j hj
      have hcs := hc (j + 1) (by omega)
      have hc0 := hc j (by omega)
      show ∃ s' : St × Int32, _ ∧ fX4_orderInto_29 bw bc K 1 (n + 1) (saf σ 39 o) (nI (ofN d t D j).1) (nI j) = fX4_orderInto_29 bw bc K 1 n s'.1 s'.2 (nI (j + 1))
      rw [fX4_orderInto_29, if_neg (show ¬ (1 : Int32) = 0 by decide), show gi (saf σ 39 o) 15 = nI kn from h15, if_neg (nI_ge hj (by omega)), if_pos (inx (show j < 70 by omega) (by decide)), nI_clamp (show j < 2 ^ 31 by omega), show ga (saf σ 39 o) 35 j = nI (actN d t D j) from h1, nI_1]
      rw [ofN] at hcs ⊢
      by_cases c : actN d t D j < 100
      · rw [if_pos c] at hcs ⊢
        have hcs : (ofN d t D j).1 + 1 ≤ d.1 := hcs
        rw [if_neg (show ¬ (100 : Int32) ≤ nI (actN d t D j) from nI_ge (b := 100) c (by decide)), if_neg (show ¬ nI 14 ≤ nI (ofN d t D j).1 from nI_ge (by omega) (by decide)), if_pos (inx' (show j < 70 by omega) (by decide)), if_pos (inx (show (ofN d t D j).1 < 14 by omega) (by decide)), nI_clamp (show (ofN d t D j).1 < 2 ^ 31 by omega), sa_saf, nI_1]
        refine ⟨(_, _), ⟨_, rfl, rfl, fun x hx => ?_⟩, rfl⟩
        have hx : x < (ofN d t D j).1 + 1 := hx
        show upd o (ofN d t D j).1 (nI (actN d t D j)) x = nI (if x = (ofN d t D j).1 then actN d t D j else (ofN d t D j).2 x)
        by_cases e : x = (ofN d t D j).1
        · rw [if_pos e, e]; exact pk_us
        · rw [if_neg e, pk_un e]; exact hI x (by omega)
      · rw [if_neg c]
        rw [if_pos (show (100 : Int32) ≤ nI (actN d t D j) from nI_le (a := 100) (by omega) (by omega))]
        exact ⟨(_, _), ⟨o, rfl, rfl, hI⟩, rfl⟩)
    (σ, (0 : Int32)) ⟨ga σ 39, (saf_self σ 39).symm, rfl, fun x hx => absurd hx (Nat.not_lt_zero _)⟩
  refine ⟨o, ?_, a3⟩
  refine Eq.trans a4 ?_
  rw [a1, a2]
theorem ordLoopM {τ : St} {d : SD} {t : TD} {D : Nat → Nat → Nat} (hn : d.1 ≤ 14) {kn : Nat} (hkn : kn ≤ 70) (h15 : gi τ 15 = nI kn) (h16 : ¬ gi τ 16 < 0) (ha : ∀ j, j < kn → ga τ 19 j = nI (actN d t D j) ∧ actN d t D j < 200) (hc : ∀ j, j ≤ kn → (ofN d t D j).1 ≤ d.1) (K : St → Int32 → Int32 → Option St) : ∃ o, fX10_findOrder_8 K KF τ 0 0 = K (saf τ 22 o) (nI (ofN d t D kn).1) (nI kn) ∧ ∀ x, x < (ofN d t D kn).1 → o x = nI ((ofN d t D kn).2 x) := by
  obtain ⟨s', ⟨o, a1, a2, a3⟩, a4⟩ := for_loop0 (fun n (s : St × Int32) i => fX10_findOrder_8 K n s.1 s.2 i) (fun s i => K s.1 s.2 i) (fun j (s : St × Int32) => ∃ o, s.1 = saf τ 22 o ∧ s.2 = nI (ofN d t D j).1 ∧ ∀ x, x < (ofN d t D j).1 → o x = nI ((ofN d t D j).2 x)) kn (by omega)
    (fun n s => by
      rintro ⟨o, q1, q2, _⟩
      show fX10_findOrder_8 K (n + 1) s.1 s.2 (nI kn) = K s.1 s.2 (nI kn)
      rw [q1, fX10_findOrder_8, show gi (saf τ 22 o) 15 = nI kn from h15, if_pos (nI_le (Nat.le_refl _) (by omega))])
    (fun n j s hj => by
      obtain ⟨st, v⟩ := s
      rintro ⟨o, q1, q2, hI⟩
      have q1 : st = saf τ 22 o := q1
      have q2 : v = nI (ofN d t D j).1 := q2
      subst q1 q2
      obtain ⟨h1, h2⟩ := ha j hj
      have hcs := hc (j + 1) (by omega)
      have hc0 := hc j (by omega)
      show ∃ s' : St × Int32, _ ∧ fX10_findOrder_8 K (n + 1) (saf τ 22 o) (nI (ofN d t D j).1) (nI j) = fX10_findOrder_8 K n s'.1 s'.2 (nI (j + 1))
      rw [fX10_findOrder_8, show gi (saf τ 22 o) 15 = nI kn from h15, if_neg (nI_ge hj (by omega)), show gi (saf τ 22 o) 16 = gi τ 16 from rfl, if_neg h16, if_pos (inx (show j < 84 by omega) (by decide)), nI_clamp (show j < 2 ^ 31 by omega), show ga (saf τ 22 o) 19 j = nI (actN d t D j) from h1, nI_1]
      rw [ofN] at hcs ⊢
      by_cases c : actN d t D j < 100
      · rw [if_pos c] at hcs ⊢
        have hcs : (ofN d t D j).1 + 1 ≤ d.1 := hcs
        rw [if_neg (show ¬ (100 : Int32) ≤ nI (actN d t D j) from nI_ge (b := 100) c (by decide)), if_pos (inx' (show j < 84 by omega) (by decide)), if_pos (inx (show (ofN d t D j).1 < 14 by omega) (by decide)), nI_clamp (show (ofN d t D j).1 < 2 ^ 31 by omega), sa_saf, nI_1]
        refine ⟨(_, _), ⟨_, rfl, rfl, fun x hx => ?_⟩, rfl⟩
        have hx : x < (ofN d t D j).1 + 1 := hx
        show upd o (ofN d t D j).1 (nI (actN d t D j)) x = nI (if x = (ofN d t D j).1 then actN d t D j else (ofN d t D j).2 x)
        by_cases e : x = (ofN d t D j).1
        · rw [if_pos e, e]; exact pk_us
        · rw [if_neg e, pk_un e]; exact hI x (by omega)
      · rw [if_neg c]
        rw [if_pos (show (100 : Int32) ≤ nI (actN d t D j) from nI_le (a := 100) (by omega) (by omega))]
        exact ⟨(_, _), ⟨o, rfl, rfl, hI⟩, rfl⟩)
    (τ, (0 : Int32)) ⟨ga τ 22, (saf_self τ 22).symm, rfl, fun x hx => absurd hx (Nat.not_lt_zero _)⟩
  refine ⟨o, ?_, a3⟩
  refine Eq.trans a4 ?_
  rw [a1, a2]
theorem idLoopX {σ : St} {n : Nat} (hn : n ≤ 14) (e1 : gi σ 10 = nI n) (bw bc : Nat) (v3 : Int32) : ∃ o, fX4_orderInto_82 bw bc (fX4_orderInto_82_k bw bc 0 v3) 0 v3 KF σ 0 = some (saf σ 39 o) ∧ ∀ x, x < n → o x = nI x := by
  obtain ⟨s', ⟨o, a1, a2⟩, a3⟩ := for_loop0 (fX4_orderInto_82 bw bc (fX4_orderInto_82_k bw bc 0 v3) 0 v3) (fX4_orderInto_82_k bw bc 0 v3) (fun k st => ∃ o, st = saf σ 39 o ∧ ∀ x, x < k → o x = nI x) n (by omega)
    (fun m st => by
      rintro ⟨o, rfl, _⟩
      rw [fX4_orderInto_82, if_pos rfl, show gi (saf σ 39 o) 10 = nI n from e1, if_pos (nI_le (Nat.le_refl _) (by omega))])
    (fun m k st hk => by
      rintro ⟨o, rfl, hI⟩
      rw [fX4_orderInto_82, if_pos rfl, show gi (saf σ 39 o) 10 = nI n from e1, if_neg (nI_ge hk (by omega)), if_neg (show ¬ nI 14 ≤ nI k from nI_ge (by omega) (by decide)), if_pos (inx (show k < 14 by omega) (by decide)), nI_clamp (by omega), sa_saf, nI_1]
      refine ⟨_, ⟨_, rfl, fun x hx => ?_⟩, rfl⟩
      by_cases e : x = k
      · subst e; exact pk_us
      · rw [pk_un e]; exact hI x (by omega))
    σ ⟨ga σ 39, (saf_self σ 39).symm, fun x hx => by omega⟩
  refine ⟨o, ?_, a2⟩
  rw [a3, a1]
  rfl
theorem idLoopM {τ : St} {n : Nat} (hn : n ≤ 14) (e1 : gi τ 9 = nI n) (h16 : gi τ 16 = -1) (v1 : Int32) : ∃ o, fX10_findOrder_57 (fX10_findOrder_57_k v1) v1 KF τ 0 = some (saf τ 22 o) ∧ ∀ x, x < n → o x = nI x := by
  obtain ⟨s', ⟨o, a1, a2⟩, a3⟩ := for_loop0 (fX10_findOrder_57 (fX10_findOrder_57_k v1) v1) (fX10_findOrder_57_k v1) (fun k st => ∃ o, st = saf τ 22 o ∧ ∀ x, x < k → o x = nI x) n (by omega)
    (fun m st => by
      rintro ⟨o, rfl, _⟩
      rw [fX10_findOrder_57, show gi (saf τ 22 o) 9 = nI n from e1, if_pos (nI_le (Nat.le_refl _) (by omega))])
    (fun m k st hk => by
      rintro ⟨o, rfl, hI⟩
      rw [fX10_findOrder_57, show gi (saf τ 22 o) 9 = nI n from e1, if_neg (nI_ge hk (by omega)), show gi (saf τ 22 o) 16 = -1 from h16, if_neg (show ¬ (0 : Int32) ≤ -1 by decide), if_pos (inx (show k < 14 by omega) (by decide)), nI_clamp (by omega), sa_saf, nI_1]
      refine ⟨_, ⟨_, rfl, fun x hx => ?_⟩, rfl⟩
      by_cases e : x = k
      · subst e; exact pk_us
      · rw [pk_un e]; exact hI x (by omega))
    τ ⟨ga τ 22, (saf_self τ 22).symm, fun x hx => by omega⟩
  refine ⟨o, ?_, a2⟩
  rw [a3, a1]
  rfl
/-- both write the same order -/
theorem both_order {σ τ : St} (h : Rel σ τ) : ∃ bw bc σ' τ' ord, fX4_orderInto bw bc σ = some σ' ∧ fX10_findOrder τ = some τ' ∧ Rel σ' τ' ∧ bw + bc + Pot σ ≤ Pot σ' ∧ sdX σ' = sdX σ ∧ OrdOK (sdX σ') (tdX σ') ord ∧ OrdF (sdX σ') ord ∧ (∀ k, k < (sdX σ').1 → ga σ' 39 k = nI (ord k)) ∧ ∀ k, k < (sdX σ').1 → ga τ' 22 k = nI (ord k) := by
  -- with no plan: by numbers
  have plain : ∀ (σ1 τ1 : St) (bw bc : Nat), Rel σ1 τ1 → gi τ1 15 = 0 → gi τ1 16 = -1 → OrdOK (sdX σ1) (tdX σ1) (fun x => x) → ∃ σ' τ', fX4_orderInto_29 bw bc (fX4_orderInto_29_k bw bc 0) 0 KF σ1 0 0 = some σ' ∧ fX10_findOrder_8 fX10_findOrder_8_k KF τ1 0 0 = some τ' ∧ Rel σ' τ' ∧ Pot σ' = Pot σ1 ∧ sdX σ' = sdX σ1 ∧ tdX σ' = tdX σ1 ∧ OrdF (sdX σ1) (fun x => x) ∧ (∀ k, k < (sdX σ1).1 → ga σ' 39 k = nI k) ∧ ∀ k, k < (sdX σ1).1 → ga τ' 22 k = nI k := fun σ1 τ1 bw bc h1 h15 h16 hO => by
    obtain ⟨hA, ⟨hs, hk, ht, hcal⟩, hw, hp, hm, hz, hl⟩ := id h1
    obtain ⟨x1, x2, x3⟩ := st_get hs hk
    obtain ⟨o, o1, o2⟩ := idLoopX x1.1 x1.2.2.1 bw bc 0
    obtain ⟨o', o1', o2'⟩ := idLoopM x2.1 x2.2.2.1 h16 0
    obtain ⟨f0, hf0⟩ : ∃ f0, KF = f0 + 1 := ⟨KF - 1, by have := KF_ge; omega⟩
    refine ⟨saf σ1 39 o, saf τ1 22 o', ?_, ?_, ⟨hA, ⟨hs, hk, ht, hcal⟩, hw, hp, hm, hz, hl⟩, rfl, rfl, rfl, id_ord (fun i hi => (x1.2.2.2.2.1 i hi).1), o2, o2'⟩
    · rw [show fX4_orderInto_29 bw bc (fX4_orderInto_29_k bw bc 0) 0 KF σ1 0 0 = fX4_orderInto_29_k bw bc 0 σ1 0 0 by rw [hf0, fX4_orderInto_29, if_pos rfl]]
      exact o1
    · rw [show fX10_findOrder_8 fX10_findOrder_8_k KF τ1 0 0 = fX10_findOrder_8_k τ1 0 0 by rw [hf0, fX10_findOrder_8, h15, if_pos (show (0 : Int32) ≤ 0 by decide)]]
      exact o1'
  obtain ⟨_, ⟨_, _, ⟨m, _, _, hm5, e1, e2, _⟩, _⟩, _⟩ := id h
  unfold fX4_orderInto fX10_findOrder
  by_cases c : gi σ 12 = 0
  · obtain ⟨τ', m1, m2, m3⟩ := planM h
    obtain ⟨_, ⟨hs, hk, ht, _⟩, _, _, hpm, _, _⟩ := id m2
    obtain ⟨x1, x2, x3⟩ := st_get hs hk
    obtain ⟨y1, y2, y3⟩ := td_get hs ht
    have ht0 : (tdX σ).1 = 0 := by
      have := y1.2.1
      rw [c] at this
      exact (nI_inj (by have := y1.1; omega) (by decide) (show nI _ = nI 0 from this.symm))
    have hpl := hpm.2 m3
    rw [x3, y3] at hpl
    rcases hpl with ⟨_, q1, q2⟩ | ⟨q, _⟩
    · obtain ⟨σ', τ2, p1, p2, p3, p4, p5, p6, p7, p8, p9⟩ := plain σ τ' 0 0 m2 q2 q1 (Or.inl ⟨ht0, rfl⟩)
      refine ⟨0, 0, σ', τ2, fun x => x, ?_, ?_, p3, by omega, p5, by rw [p5, p6]; exact Or.inl ⟨ht0, rfl⟩, by rw [p5]; exact p7, by rw [p5]; exact p8, by rw [p5]; exact p9⟩
      · rw [if_pos (show gi σ 12 ≤ 0 by rw [c]; decide)]; exact p1
      · rw [m1]; exact p2
    · exact absurd ht0 q
  · obtain ⟨bw, bc, σ1, τ1, D, p1, p2, p3, p4, p5, p6, p7, p8, p9, p10, p11⟩ := both_plan h c
    obtain ⟨hA, ⟨hs, hk, ht, hcal⟩, hw, hp, hpm, hz, hl⟩ := id p3
    obtain ⟨a, b, la, lb, l1, l2⟩ := id hl
    obtain ⟨x1, x2, x3⟩ := st_get hs hk
    obtain ⟨y1, y2, y3⟩ := td_get hs ht
    have hb16 := len16 lb
    have hbp := pow_pos' b
    have hix : ¬ ((0 : Int32) < 0 ∨ gn σ1 33 ≤ (0 : Int32).toNatClampNeg) := inx (i := 0) (show 0 < gn σ1 33 by omega) (by omega)
    have hle := cost_le p9 0 0
    have hm0 : m ≠ 0 := fun q => c (by rw [e1, q]; rfl)
    have ht0 : (tdX σ1).1 ≠ 0 := fun q => by
      have := y1.2.1
      rw [q, p7] at this
      exact c this
    have h12 : ¬ gi σ 12 ≤ 0 := by rw [e1]; exact nI_ge (a := 0) (by omega) (by omega)
    have hn := x1.1
    have hm := y1.1
    have hP : ∀ s u, s < (tdX σ1).1 → u < (tdX σ1).1 → 1 ≤ (tdX σ1).2.2.1 s u := fun s u hs hu => (y1.2.2.2.1 s u (by omega) (by omega)).1
    have hrs : ∀ i, i < (sdX σ1).1 → (sdX σ1).2.2.1 i < 2 ^ 32 := fun i hi => Nat.lt_of_lt_of_le (x1.2.2.2.2.1 i hi).1 (Nat.pow_le_pow_right (by decide) (by omega))
    rcases p11 with ⟨q1, q2, q3, q4⟩ | ⟨q1, q2, kn, q3, q4, q5, q6⟩
    · have hO : OrdOK (sdX σ1) (tdX σ1) (fun x => x) := Or.inr ⟨ht0, D, p9, Or.inl ⟨q1, rfl⟩⟩
      obtain ⟨σ', τ2, r1, r2, r3, r4, r5, r6, r7, r8, r9⟩ := plain σ1 τ1 bw bc p3 q4 q3 hO
      refine ⟨bw, bc, σ', τ2, fun x => x, ?_, ?_, r3, by omega, r5.trans p5, by rw [r5, r6]; exact hO, by rw [r5]; exact r7, by rw [r5]; exact r8, by rw [r5]; exact r9⟩
      · rw [if_neg h12]
        unfold fX4_leastPrice
        rw [p1]
        simp only [obS]
        rw [if_pos hix, show ga σ1 33 (0 : Int32).toNatClampNeg = nI (D 0 0) from p10, if_neg (show ¬ nI (D 0 0) < (1000000 : Int32) from nI_nlt (b := 1000000) (by omega) (by omega))]
        simp only [obS]
        rw [if_pos True.intro]
        exact r1
      · rw [p2]; exact r2
    · obtain ⟨kn', k1', k2'⟩ := trc_ex hn hm (by omega) hP p9 q1
      have := trc_uni q3 k1'
      subst this
      have h70 := q3.1
      have hinv := of_inv hn hm hrs p9 q3 k2'
      have hc : ∀ j, j ≤ kn → (ofN (sdX σ1) (tdX σ1) D j).1 ≤ (sdX σ1).1 := fun j hj => by
        rw [(hinv j hj).1]; exact popN_le _ _
      obtain ⟨n1, hF⟩ := of_end hn hm hrs p9 q3 k2'
      have hact : ∀ j, j < kn → actN (sdX σ1) (tdX σ1) D j < 200 := fun j hj => by
        obtain ⟨w1, w2, w3⟩ := k2' j (by omega)
        unfold actN
        rcases act_ok p9 w1 (q3.2.2 j hj) w2 w3 with ⟨a1, a2, a3⟩ | ⟨a1, a2, a3, a4⟩
        · rw [a2]; omega
        · rw [a2]; omega
      obtain ⟨o, o1, o2⟩ := ordLoopX hn h70 q4 (fun j hj => ⟨(q6 j hj).1, hact j hj⟩) hc bw bc (fX4_orderInto_29_k bw bc 1)
      have h16 : ¬ gi τ1 16 < 0 := by rw [q2]; exact nI_pos (by omega)
      obtain ⟨o', o1', o2'⟩ := ordLoopM hn h70 q5 h16 (fun j hj => ⟨(q6 j hj).2, hact j hj⟩) hc fX10_findOrder_8_k
      rw [n1] at o2 o2'
      obtain ⟨f0, hf0⟩ : ∃ f0, KF = f0 + 1 := ⟨KF - 1, by have := KF_ge; omega⟩
      refine ⟨bw, bc, saf σ1 39 o, saf τ1 22 o', (ofN (sdX σ1) (tdX σ1) D kn).2, ?_, ?_, ⟨hA, ⟨hs, hk, ht, hcal⟩, hw, hp, hpm, hz, hl⟩, p4, p5, Or.inr ⟨ht0, D, p9, Or.inr ⟨q1, kn, q3, rfl⟩⟩, hF, o2, o2'⟩
      · rw [if_neg h12]
        unfold fX4_leastPrice
        rw [p1]
        simp only [obS]
        rw [if_pos hix, show ga σ1 33 (0 : Int32).toNatClampNeg = nI (D 0 0) from p10, if_pos (show nI (D 0 0) < (1000000 : Int32) from nI_lt (b := 1000000) q1 (by decide)), if_pos hix]
        simp only [obS]
        rw [if_neg (nI_ne1 (by omega)), o1]
        unfold fX4_orderInto_29_k
        rw [hf0, fX4_orderInto_82, if_neg (show ¬ (1 : Int32) = 0 by decide)]
        rfl
      · rw [p2]
        simp only [obS]
        rw [o1']
        unfold fX10_findOrder_8_k
        rw [hf0, fX10_findOrder_57]
        rw [show gi (saf τ1 22 o') 16 = nI (D 0 0) from q2, if_pos (show (0 : Int32) ≤ nI (D 0 0) from nI_pos' (by omega)), ite_self]
        rfl
/-- what laying looks at, off either state -/
def cX (σ : St) (ord : Nat → Nat) : CD := cdN (sdX σ) ord (ga σ 19) (ga σ 36) (gi σ 18)
theorem lx_get {σ τ : St} (h : Rel σ τ) {ord : Nat → Nat} (hO : OrdF (sdX σ) ord) (h39 : ∀ k, k < (sdX σ).1 → ga σ 39 k = nI (ord k)) (h22 : ∀ k, k < (sdX σ).1 → ga τ 22 k = nI (ord k)) : LX σ (cX σ ord) (fzN (ga σ 37)) ∧ LM τ (cX σ ord) (fzN (ga σ 37)) := by
  obtain ⟨hA, ⟨hs, hk, ht, ⟨⟨mo, c1, c2, c3⟩, c4, c5⟩⟩, _⟩ := id h
  obtain ⟨x1, x2, x3⟩ := st_get hs hk
  have hn := x1.1
  obtain ⟨n, cc, hn', _, e1, e2, e3, e4, hst⟩ := id hs
  have en : (sdX σ).1 = n := by show (gi σ 10).toNatClampNeg = n; rw [e1, nI_clamp (by omega)]
  have hhr : ∀ i, i < (sdX σ).1 → ga σ 19 i = nI ((cX σ ord).2.2.1 i) ∧ ga τ 10 i = nI ((cX σ ord).2.2.1 i) ∧ 1 ≤ (cX σ ord).2.2.1 i ∧ (cX σ ord).2.2.1 i ≤ 12 := fun i hi => by
    obtain ⟨x', z', w', r', q1, q2, q3, q4, q5, q6, q7, q8, q9, q10, q11, _⟩ := hst i (by omega)
    have : (cX σ ord).2.2.1 i = w' := by
      show (if i < (sdX σ).1 then (ga σ 19 i).toNatClampNeg else 0) = w'
      rw [if_pos hi, q10, nI_clamp (by omega)]
    rw [this]
    exact ⟨q10, q11, q3, q4⟩
  have hli : ∀ e, e < 80 → ga σ 36 e = nI ((cX σ ord).2.2.2.2.1 e) ∧ ga τ 20 e = nI ((cX σ ord).2.2.2.2.1 e) ∧ (cX σ ord).2.2.2.2.1 e ≤ 16 := fun e he => by
    obtain ⟨x, q1, q2, q3, _⟩ := c5 e he
    have : (cX σ ord).2.2.2.2.1 e = x := by
      show (if e < 80 then (ga σ 36 e).toNatClampNeg else 0) = x
      rw [if_pos he, q2, nI_clamp (by omega)]
    rw [this]
    exact ⟨q2, q3, q1⟩
  have hdr : (cX σ ord).2.2.2.2.2 = mo := by show (gi σ 18).toNatClampNeg = mo; rw [c2, nI_clamp (by omega)]
  have hfz : ∀ e, e < 80 → (ga σ 37 e = 0 ↔ fzN (ga σ 37) e = false) := fun e he => by
    unfold fzN
    rw [decide_eq_false_iff_not]
    constructor
    · intro q w; exact w.2 q
    · intro q; exact Classical.byContradiction fun w => q ⟨he, w⟩
  have hp14 : ∀ i, i < (sdX σ).1 → (sdX σ).2.2.1 i < 2 ^ 14 := fun i hi => Nat.lt_of_lt_of_le (x1.2.2.2.2.1 i hi).1 (Nat.pow_le_pow_right (by decide) (by omega))
  refine ⟨⟨hn, x1.2.2.1, fun k hk => ⟨h39 k hk, hO.1 k hk⟩, fun i hi => ⟨(hhr i hi).1, (hhr i hi).2.2⟩, fun i hi => ⟨(x1.2.2.2.2.1 i hi).2, hp14 i hi⟩, fun e he => ⟨(hli e he).1, (hli e he).2.2⟩, by rw [hdr]; exact c2, by rw [hdr]; exact c1, hfz, hO.2.1⟩, ⟨hn, x2.2.2.1, fun k hk => ⟨h22 k hk, hO.1 k hk⟩, fun i hi => ⟨(hhr i hi).2.1, (hhr i hi).2.2⟩, fun i hi => ⟨(x2.2.2.2.2.1 i hi).2, hp14 i hi⟩, fun e he => ⟨(hli e he).2.1, (hli e he).2.2⟩, by rw [hdr]; exact c3, by rw [hdr]; exact c1, fun e he => ?_, hO.2.1⟩⟩
  obtain ⟨_, _, _, _, q4, _⟩ := c5 e he
  rw [← q4]
  exact hfz e he
theorem exF_none {fz : Nat → Bool} : exF fz (-1) (-1) = fz := by
  funext e
  unfold exF
  by_cases c : e < 80
  · rw [decide_eq_true c, decide_eq_false (nI_ne1 (by omega)), Bool.true_and, Bool.or_self, Bool.or_false]
  · rw [decide_eq_false c, Bool.false_and, Bool.or_false]
/-- both lay in the same order -/
theorem both_lay {σ τ : St} (h : Rel σ τ) : ∃ bw bc σ1 σ' τ1 τ' e lo lo', fX4_orderInto bw bc σ = some σ1 ∧ fX0_endWith σ1 (-1) (-1) = some (nI e, σ') ∧ fX10_findOrder τ = some τ1 ∧ fX10_layAll τ1 = some (nI e, τ') ∧ e ≤ 80 ∧ Rel σ' τ' ∧ bw + bc + Pot σ ≤ Pot σ' ∧ ga σ' 40 = lo ∧ ga τ' 23 = lo' ∧ ∀ i, i < (sdX σ).1 → lo i = lo' i := by
  obtain ⟨bw, bc, σ1, τ1, ord, p1, p2, p3, p4, p5, p6, p7, p8, p9⟩ := both_order h
  obtain ⟨hA, ⟨hs, hk, ht, ⟨c1, c2, c3⟩⟩, hC⟩ := id p3
  obtain ⟨L1, L2⟩ := lx_get p3 p7 p8 p9
  obtain ⟨th, lo, q1, q2, q3⟩ := endX L1 c2 (-1) (-1)
  obtain ⟨lo', hl, r1, r2⟩ := layM L2
  rw [exF_none] at q1 q3
  refine ⟨bw, bc, σ1, wsX σ1 th lo, τ1, wsM τ1 lo' hl, endN (cX σ1 ord) (fzN (ga σ1 37)), lo, lo', p1, q1, p2, r1, end_le, ⟨hA, ⟨hs, hk, ht, ⟨c1, q2, c3⟩⟩, hC⟩, p4, rfl, rfl, fun i hi => ?_⟩
  rw [← p5] at hi
  obtain ⟨j, j1, j2⟩ := p7.2.2 i hi
  have a := q3 j j1
  have b := r2 j j1
  have hj : (cX σ1 ord).2.1 j = i := j2
  rw [hj] at a b
  rw [a, b]
theorem e_laid {σ τ : St} (h : Rel σ τ) (v : Int32) : TwoP σ (fun bw bc => fX9_laid bw bc σ v) (fX10_laid τ v) := by
  obtain ⟨_, ⟨hs, hk, _⟩, _⟩ := id h
  obtain ⟨x1, x2, x3⟩ := st_get hs hk
  have hn := x1.1
  unfold fX9_laid fX10_laid
  rw [isStone_eq σ v (show (sdX σ).1 ≤ 100 by omega) x1.2.2.1, noStone_eq τ v (show (sdX σ).1 ≤ 100 by omega) x2.2.2.1]
  simp only [obS]
  by_cases c : 0 ≤ v.toInt ∧ v.toInt ≤ ((sdX σ).1 : Int) - 1
  · obtain ⟨x, rfl, l1, u1⟩ := t_nat' (a := 0) (by decide) c
    obtain ⟨bw, bc, σ1, σ', τ1, τ', e, lo, lo', p1, p2, p3, p4, p5, p6, p7, p8, p9, p10⟩ := both_lay h
    refine ⟨bw, bc, lo x, σ', τ', ?_, ?_, p6, p7⟩
    · show (if (if 0 ≤ (nI x).toInt ∧ (nI x).toInt ≤ ((sdX σ).1 : Int) - 1 then (1 : Int32) else 0) = 0 then _ else _) = _
      rw [if_pos c, if_neg (show ¬ (1 : Int32) = 0 by decide), p1]
      simp only [obS]
      rw [p2]
      simp only [obS]
      rw [if_pos (inx (show x < 14 by omega) (by decide)), nI_clamp (by omega), p8]
    · rw [if_pos c, if_pos rfl, p3]
      simp only [obS]
      rw [p4]
      simp only [obS]
      rw [if_pos (inx (show x < 14 by omega) (by decide)), nI_clamp (by omega), p9, p10 x (by omega)]
  · refine ⟨0, 0, -2, σ, τ, ?_, ?_, h, Pot_refl⟩
    · show (if (if 0 ≤ v.toInt ∧ v.toInt ≤ ((sdX σ).1 : Int) - 1 then (1 : Int32) else 0) = 0 then _ else _) = _
      rw [if_neg c, if_pos rfl]
    · rw [if_neg c, if_neg (show ¬ (1 : Int32) = 0 by decide)]
theorem e_end {σ τ : St} (h : Rel σ τ) : TwoP σ (fun bw bc => fX9_end bw bc σ) (fX10_end τ) := by
  obtain ⟨_, ⟨⟨n, _, _, _, e1, e2, _⟩, _⟩, _⟩ := id h
  unfold fX9_end fX10_end
  rw [show gi τ 9 = gi σ 10 by rw [e1, e2]]
  by_cases c : gi σ 10 = 0
  · refine ⟨0, 0, -1, σ, τ, if_pos c, if_pos c, h, Pot_refl⟩
  · obtain ⟨bw, bc, σ1, σ', τ1, τ', e, lo, lo', p1, p2, p3, p4, p5, p6, p7, p8, p9, p10⟩ := both_lay h
    refine ⟨bw, bc, if 80 ≤ e then -1 else nI e, σ', τ', ?_, ?_, p6, p7⟩
    · show (if gi σ 10 = 0 then _ else _) = _
      rw [if_neg c, p1]
      simp only [obS]
      rw [p2]
      simp only [obS]
      by_cases q : 80 ≤ e
      · rw [if_pos q, if_pos (show nI e = (80 : Int32) by rw [show e = 80 by omega]; rfl)]
      · rw [if_neg q, if_neg (show ¬ nI e = (80 : Int32) from fun w => q (by have := nI_inj (b := 80) (by omega) (by decide) w; omega))]
    · rw [if_neg c, p3]
      simp only [obS]
      rw [p4]
      simp only [obS]
      by_cases q : 80 ≤ e
      · rw [if_pos q, if_pos (show (80 : Int32) ≤ nI e from nI_le (a := 80) q (by omega))]
      · rw [if_neg q, if_neg (show ¬ (80 : Int32) ≤ nI e from nI_ge (b := 80) (by omega) (by decide))]
