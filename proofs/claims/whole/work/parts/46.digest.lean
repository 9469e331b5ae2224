/-! the digest -/
def itF (g : Nat → Int64 → Int64) : Nat → Nat → Int64 → Int64
  | _, 0, h => h
  | a, d + 1, h => itF g (a + 1) d (g a h)
theorem itF_congr {g g' : Nat → Int64 → Int64} : ∀ (d a : Nat) (h : Int64), (∀ k, a ≤ k → k < a + d → ∀ x, g k x = g' k x) → itF g a d h = itF g' a d h
  | 0, _, _, _ => rfl
  | d + 1, a, h, hg => by rw [itF, itF, hg a (Nat.le_refl a) (by omega), itF_congr d (a + 1) _ (fun k h1 h2 => hg k (by omega) (by omega))]
theorem fold_loop {S R : Type} (L : Nat → S → Int32 → Option R) (K : S → Int32 → Option R) (W : Int64 → S) (g : Nat → Int64 → Int64) (n : Nat)
    (hx : ∀ f h, L (f + 1) (W h) (nI n) = K (W h) (nI n))
    (hs : ∀ f k h, k < n → L (f + 1) (W h) (nI k) = L f (W (g k h)) (nI (k + 1))) : ∀ (d a f : Nat) (h : Int64), a + d = n → d < f → L f (W h) (nI a) = K (W (itF g a d h)) (nI n) := by
  intro d
  induction d with
  | zero =>
    intro a f h h1 h2
    cases f with
    | zero => omega
    | succ f => rw [show a = n by omega, hx]; rfl
  | succ d ih =>
    intro a f h h1 h2
    cases f with
    | zero => omega
    | succ f => rw [hs f a h (by omega), ih (a + 1) f _ (by omega) (by omega)]; rfl
theorem fold_loop0 {S R : Type} (L : Nat → S → Int32 → Option R) (K : S → Int32 → Option R) (W : Int64 → S) (g : Nat → Int64 → Int64) (n : Nat) (hn : n ≤ 1000)
    (hx : ∀ f h, L (f + 1) (W h) (nI n) = K (W h) (nI n))
    (hs : ∀ f k h, k < n → L (f + 1) (W h) (nI k) = L f (W (g k h)) (nI (k + 1))) (h : Int64) : L KF (W h) 0 = K (W (itF g 0 n h)) (nI n) :=
  fold_loop L K W g n hx hs n 0 KF h (by omega) (Nat.lt_of_lt_of_le (by omega) KF_ge)
def mx (h : Int64) (v : Int32) : Int64 := (31 : Int64) * h + v.toInt64
theorem sl_sl (τ : St) (k : Nat) (a b : Int64) : sl (sl τ k a) k b = sl τ k b := by
  unfold sl
  refine Prod.ext rfl (Prod.ext (funext fun j => ?_) rfl)
  show (if j = k then b else if j = k then a else τ.2.1 j) = if j = k then b else τ.2.1 j
  by_cases h0 : j = k
  · rw [if_pos h0, if_pos h0]
  · rw [if_neg h0, if_neg h0, if_neg h0]
theorem note_eq (τ : St) (h : Int64) (v : Int32) : fX10_note (sl τ 5 h) v.toInt64 = some (sl τ 5 (mx h v)) := by
  unfold fX10_note
  rw [sl_sl]
  rfl
theorem tell_both {σ τ : St} (h : Rel σ τ) {n k : Nat} (e : gi σ 7 = nI n) (hk : k < n) (hn : n ≤ 6) (b : Int32) : One (fX5_tell σ (nI k) b) (fX10_aboutOf τ (nI k) b) := by
  obtain ⟨⟨hD, hcr, ⟨n', hn', e1, e2, hw, hz⟩, hA⟩, hB, hC⟩ := id h
  have en : n' = n := nI_inj (by omega) (by omega) (e1.symm.trans e)
  subst en
  obtain ⟨s, w, s1, s2, s3, s4, s5, s6, s7, s8, s9, s10, s11⟩ := hw k (by omega)
  unfold fX5_tell fX10_aboutOf
  rw [heldX (show k < 6 by omega) s4 s6 s2 (by omega), holdM (show k < 7 by omega) s5 s7 s2 (by omega)]
  simp only [if_pos (inx' (show k < 6 by omega) (by decide)), if_pos (inx' (show k < 7 by omega) (by decide)), nI_clamp (show k < 2 ^ 31 by omega), obS, s4, s5, s6, s7, s8, s9, fX10_bit]
  by_cases d0 : b = 0
  · simp only [if_pos d0, obS]; exact One.same _
  · simp only [if_neg d0]
    by_cases d1 : b = 1
    · simp only [if_pos d1, obS]; exact One.same _
    · simp only [if_neg d1]
      by_cases d2 : b = 2
      · simp only [if_pos d2]
        by_cases z : ga τ 5 k = 0
        · simp only [if_pos z, obS]; exact One.same _
        · simp only [if_neg z, obS]; exact One.same _
      · simp only [if_neg d2]
        by_cases d3 : b = 3
        · simp only [if_pos d3]
          by_cases z : ga τ 6 k = 0
          · simp only [if_pos z, obS]; exact One.same _
          · simp only [if_neg z, obS]; exact One.same _
        · simp only [if_neg d3, obS]; exact One.same _
theorem inx5 {p q : Nat} (hp : p < 5) (hq : q < 5) : (5 : Int32) * nI p + nI q = nI (5 * p + q) := by
  rw [show (5 : Int32) = nI 5 from rfl, pk_mul, nI_add]
theorem e_digest {σ τ : St} (h : Rel σ τ) : OTL σ (fX9_digest σ) (fX10_digest τ) := by
  obtain ⟨⟨⟨g, s, a, f, t, T, ⟨g1, g2, g3, g4⟩, ⟨h1, h2, h3, h4⟩, ⟨h5, h6, h7, h8⟩, ⟨f1, f2, f3⟩, ⟨h9, h10, h11⟩, ⟨h12, h13, h14, h15⟩⟩, ⟨n1, m1, a1, b1, w1⟩, ⟨n2, m2, a2, b2, w2, _⟩, ⟨n3, m3, a3, b3, w3⟩, ⟨n4, m4, a4, b4, w4⟩⟩, ⟨⟨n5, c5, m5, _, a5, b5, _, _, w5⟩, hk, ⟨n7, rr, hh, m7, a7, b7, ⟨_, _, r1, r2⟩, ⟨_, _, r3, r4⟩, w7, pr⟩, ⟨_, _⟩, ht0, hcal⟩, hC⟩ := id h
  have hrel : ∀ x, Rel σ (sl τ 5 x) := fun _ => h
  -- the nine numbers
  have p1X : fX9_digest_6 (fX9_digest_6_k σ) σ KF (271 : Int64) (0 : Int32) = fX9_digest_6_k σ (itF (fun k x => mx x ((fX9_count σ (nI k)).getD 0)) 0 9 271) (nI 9) := by
    refine fold_loop0 (fX9_digest_6 (fX9_digest_6_k σ) σ) (fX9_digest_6_k σ) id (fun k x => mx x ((fX9_count σ (nI k)).getD 0)) 9 (by omega) (fun f x => ?_) (fun f k x hk => ?_) 271
    · show fX9_digest_6 _ _ _ _ _ = _
      rw [fX9_digest_6, if_pos (show (8 : Int32) < nI 9 by decide)]
    · show fX9_digest_6 _ _ _ _ _ = _
      obtain ⟨r, q1, q2⟩ := e_count h (nI k)
      rw [fX9_digest_6, if_neg (show ¬ (8 : Int32) < nI k from nI_nlt (a := 8) (by omega) (by omega)), q1, nI_1]
      simp only [obS]
      rfl
  have p1M : fX10_digest_9 (fX10_digest_9_k) KF (sl τ 5 (271 : Int64)) (0 : Int32) = fX10_digest_9_k (sl τ 5 (itF (fun k x => mx x ((fX9_count σ (nI k)).getD 0)) 0 9 271)) (nI 9) := by
    refine fold_loop0 (fX10_digest_9 (fX10_digest_9_k)) (fX10_digest_9_k) (sl τ 5) (fun k x => mx x ((fX9_count σ (nI k)).getD 0)) 9 (by omega) (fun f x => ?_) (fun f k x hk => ?_) 271
    · rw [fX10_digest_9, if_pos (show (9 : Int32) ≤ nI 9 by decide)]
    · obtain ⟨r, q1, q2⟩ := e_count (hrel x) (nI k)
      rw [fX10_digest_9, if_neg (show ¬ (9 : Int32) ≤ nI k from nI_ge (b := 9) (by omega) (by omega)), q1, q2, nI_1]
      simp only [obS]
      rw [note_eq]
      simp only [obS]
      rfl
  unfold fX9_digest fX10_digest
  rw [p1X, p1M]
  clear p1X p1M
  generalize itF (fun k x => mx x ((fX9_count σ (nI k)).getD 0)) 0 9 271 = x0
  unfold fX9_digest_6_k fX10_digest_9_k fX2_mixInto
  simp only [note_eq, obS, gi_sl, g1, g2, h1, h2, h5, h6, f1, f2, h9, h10, h12, h13, r1, r2, r3, r4]
  simp only [show ∀ (q : Int64) (v : Int32), (31 : Int64) * q + v.toInt64 = mx q v from fun _ _ => rfl]
  generalize mx (mx (mx (mx (mx (mx (mx (mx x0 (nI g)) (nI s)) (nI a)) (nI f)) (nI t)) (nI T)) (nI rr)) (nI hh) = x1
  -- men
  have p2X : ∀ x, fX1_mixInto σ x = some (itF (fun k x => mx (mx x (ga σ 10 k)) (ga σ 11 k)) 0 n1 x) := by
    intro x
    refine fold_loop0 (fX1_mixInto_5 (fX1_mixInto_5_k σ x) σ x) (fX1_mixInto_5_k σ x) id (fun k x => mx (mx x (ga σ 10 k)) (ga σ 11 k)) n1 (by omega) (fun f x => ?_) (fun f k x hk => ?_) x
    · show fX1_mixInto_5 _ _ _ _ _ _ = _
      rw [fX1_mixInto_5, a1, if_pos (nI_le (Nat.le_refl _) (by omega))]
    · show fX1_mixInto_5 _ _ _ _ _ _ = _
      rw [fX1_mixInto_5, a1, if_neg (nI_ge hk (by omega))]
      simp only [if_pos (inx' (show k < 8 by omega) (by decide)), nI_clamp (show k < 2 ^ 31 by omega), nI_1]
      rfl
  have p2M : ∀ x, fX10_digest_105 (fX10_digest_105_k) KF (sl τ 5 x) 0 = fX10_digest_105_k (sl τ 5 (itF (fun k x => mx (mx x (ga σ 10 k)) (ga σ 11 k)) 0 n1 x)) (nI n1) := by
    intro x
    refine fold_loop0 (fX10_digest_105 (fX10_digest_105_k)) (fX10_digest_105_k) (sl τ 5) _ n1 (by omega) (fun f x => ?_) (fun f k x hk => ?_) x
    · rw [fX10_digest_105, gi_sl, b1, if_pos (nI_le (Nat.le_refl _) (by omega))]
    · obtain ⟨w, b, _, _, q1, q2, q3, q4⟩ := w1 k hk
      rw [fX10_digest_105, gi_sl, b1, if_neg (nI_ge hk (by omega))]
      simp only [if_pos (inx' (show k < 8 by omega) (by decide)), nI_clamp (show k < 2 ^ 31 by omega), nI_1, note_eq, obS, ga_sl, q1, q2, q3, q4]
  rw [p2X, p2M, obS]
  clear p2X p2M
  generalize itF (fun k x => mx (mx x (ga σ 10 k)) (ga σ 11 k)) 0 n1 x1 = x2
  unfold fX10_digest_105_k
  -- ropes
  have p3 : ∀ j, j < n2 → ∀ (kX : Int64 → Int32 → Option Int64) (v : Int64) (x : Int64), fX5_mixInto_17 kX (fX5_mixInto_17_k kX σ v (nI j)) σ v (nI j) KF x 0 = kX (itF (fun k x => mx x ((fX5_tell σ (nI j) (nI k)).getD 0)) 0 5 x) (nI (j + 1)) := by
    intro j hj kX v x
    refine Eq.trans (fold_loop0 (fX5_mixInto_17 kX (fX5_mixInto_17_k kX σ v (nI j)) σ v (nI j)) (fX5_mixInto_17_k kX σ v (nI j)) id (fun k x => mx x ((fX5_tell σ (nI j) (nI k)).getD 0)) 5 (by omega) (fun f x => ?_) (fun f k x hk => ?_) x) ?_
    · show fX5_mixInto_17 _ _ _ _ _ _ _ _ = _
      rw [fX5_mixInto_17, if_pos (show (4 : Int32) < nI 5 by decide)]
    · show fX5_mixInto_17 _ _ _ _ _ _ _ _ = _
      obtain ⟨r, q1, q2⟩ := tell_both h a2 hj (by omega) (nI k)
      rw [fX5_mixInto_17, if_neg (show ¬ (4 : Int32) < nI k from nI_nlt (a := 4) (by omega) (by omega)), q1, nI_1]
      simp only [obS]
      rfl
    · unfold fX5_mixInto_17_k
      rw [nI_1]
      rfl
  have p3' : ∀ j, j < n2 → ∀ (kM : St → Int32 → Option (Int64 × St)) (x : Int64), fX10_digest_153 kM (fX10_digest_153_k kM (nI j)) (nI j) KF (sl τ 5 x) 0 = kM (sl τ 5 (itF (fun k x => mx x ((fX5_tell σ (nI j) (nI k)).getD 0)) 0 5 x)) (nI (j + 1)) := by
    intro j hj kM x
    refine Eq.trans (fold_loop0 (fX10_digest_153 kM (fX10_digest_153_k kM (nI j)) (nI j)) (fX10_digest_153_k kM (nI j)) (sl τ 5) (fun k x => mx x ((fX5_tell σ (nI j) (nI k)).getD 0)) 5 (by omega) (fun f x => ?_) (fun f k x hk => ?_) x) ?_
    · rw [fX10_digest_153, if_pos (show (5 : Int32) ≤ nI 5 by decide)]
    · obtain ⟨r, q1, q2⟩ := tell_both (hrel x) a2 hj (by omega) (nI k)
      rw [fX10_digest_153, if_neg (show ¬ (5 : Int32) ≤ nI k from nI_ge (b := 5) (by omega) (by omega)), q1, q2, nI_1]
      simp only [obS]
      rw [note_eq]
      simp only [obS]
      rfl
    · unfold fX10_digest_153_k
      rw [nI_1]
  have p4X : ∀ x, fX5_mixInto σ x = some (itF (fun j x => itF (fun k x => mx x ((fX5_tell σ (nI j) (nI k)).getD 0)) 0 5 x) 0 n2 x) := by
    intro x
    refine fold_loop0 (fX5_mixInto_5 (fX5_mixInto_5_k σ x) σ x) (fX5_mixInto_5_k σ x) id (fun j x => itF (fun k x => mx x ((fX5_tell σ (nI j) (nI k)).getD 0)) 0 5 x) n2 (by omega) (fun f x => ?_) (fun f k x hk => ?_) x
    · show fX5_mixInto_5 _ _ _ _ _ _ = _
      rw [fX5_mixInto_5, a2, if_pos (nI_le (Nat.le_refl _) (by omega))]
    · show fX5_mixInto_5 _ _ _ _ _ _ = _
      rw [fX5_mixInto_5, a2, if_neg (nI_ge hk (by omega))]
      exact p3 k hk _ _ _
  have p4M : ∀ x, fX10_digest_143 (fX10_digest_143_k) KF (sl τ 5 x) 0 = fX10_digest_143_k (sl τ 5 (itF (fun j x => itF (fun k x => mx x ((fX5_tell σ (nI j) (nI k)).getD 0)) 0 5 x) 0 n2 x)) (nI n2) := by
    intro x
    refine fold_loop0 (fX10_digest_143 (fX10_digest_143_k)) (fX10_digest_143_k) (sl τ 5) _ n2 (by omega) (fun f x => ?_) (fun f k x hk => ?_) x
    · rw [fX10_digest_143, gi_sl, b2, if_pos (nI_le (Nat.le_refl _) (by omega))]
    · rw [fX10_digest_143, gi_sl, b2, if_neg (nI_ge hk (by omega))]
      exact p3' k hk _ _
  rw [p4X, p4M, obS]
  clear p4X p4M p3 p3'
  generalize itF (fun j x => itF (fun k x => mx x ((fX5_tell σ (nI j) (nI k)).getD 0)) 0 5 x) 0 n2 x2 = x3
  unfold fX10_digest_143_k
  -- the row
  have p5X : ∀ x, fX6_mixInto σ x = some (itF (fun k x => mx x (ga σ 16 k)) 0 n3 x) := by
    intro x
    refine fold_loop0 (fX6_mixInto_5 (fX6_mixInto_5_k σ x) σ x) (fX6_mixInto_5_k σ x) id (fun k x => mx x (ga σ 16 k)) n3 (by omega) (fun f x => ?_) (fun f k x hk => ?_) x
    · show fX6_mixInto_5 _ _ _ _ _ _ = _
      rw [fX6_mixInto_5, a3, if_pos (nI_le (Nat.le_refl _) (by omega))]
    · show fX6_mixInto_5 _ _ _ _ _ _ = _
      rw [fX6_mixInto_5, a3, if_neg (nI_ge hk (by omega))]
      simp only [if_pos (inx' (show k < 12 by omega) (by decide)), nI_clamp (show k < 2 ^ 31 by omega), nI_1]
      rfl
  have p5M : ∀ x, fX10_digest_183 (fX10_digest_183_k) KF (sl τ 5 x) 0 = fX10_digest_183_k (sl τ 5 (itF (fun k x => mx x (ga σ 16 k)) 0 n3 x)) (nI n3) := by
    intro x
    refine fold_loop0 (fX10_digest_183 (fX10_digest_183_k)) (fX10_digest_183_k) (sl τ 5) _ n3 (by omega) (fun f x => ?_) (fun f k x hk => ?_) x
    · rw [fX10_digest_183, gi_sl, b3, if_pos (nI_le (Nat.le_refl _) (by omega))]
    · obtain ⟨v, _, _, q1, q2⟩ := w3 k hk
      rw [fX10_digest_183, gi_sl, b3, if_neg (nI_ge hk (by omega))]
      simp only [if_pos (inx' (show k < 12 by omega) (by decide)), nI_clamp (show k < 2 ^ 31 by omega), nI_1, note_eq, obS, ga_sl, q1, q2]
  rw [p5X, p5M, obS]
  clear p5X p5M
  generalize itF (fun k x => mx x (ga σ 16 k)) 0 n3 x3 = x4
  unfold fX10_digest_183_k
  -- stones
  have p6X : ∀ x, fX8_mixInto σ x = some (itF (fun k x => mx (mx (mx (mx (mx x (ga σ 17 k)) (ga σ 18 k)) (ga σ 19 k)) (ga σ 20 k)) (ga σ 21 k)) 0 n5 x) := by
    intro x
    refine fold_loop0 (fX8_mixInto_5 (fX8_mixInto_5_k σ x) σ x) (fX8_mixInto_5_k σ x) id (fun k x => mx (mx (mx (mx (mx x (ga σ 17 k)) (ga σ 18 k)) (ga σ 19 k)) (ga σ 20 k)) (ga σ 21 k)) n5 (by omega) (fun f x => ?_) (fun f k x hk => ?_) x
    · show fX8_mixInto_5 _ _ _ _ _ _ = _
      rw [fX8_mixInto_5, a5, if_pos (nI_le (Nat.le_refl _) (by omega))]
    · show fX8_mixInto_5 _ _ _ _ _ _ = _
      rw [fX8_mixInto_5, a5, if_neg (nI_ge hk (by omega))]
      simp only [if_pos (inx' (show k < 14 by omega) (by decide)), nI_clamp (show k < 2 ^ 31 by omega), nI_1]
      rfl
  have p6M : ∀ x, fX10_digest_210 (fX10_digest_210_k) KF (sl τ 5 x) 0 = fX10_digest_210_k (sl τ 5 (itF (fun k x => mx (mx (mx (mx (mx x (ga σ 17 k)) (ga σ 18 k)) (ga σ 19 k)) (ga σ 20 k)) (ga σ 21 k)) 0 n5 x)) (nI n5) := by
    intro x
    refine fold_loop0 (fX10_digest_210 (fX10_digest_210_k)) (fX10_digest_210_k) (sl τ 5) _ n5 (by omega) (fun f x => ?_) (fun f k x hk => ?_) x
    · rw [fX10_digest_210, gi_sl, b5, if_pos (nI_le (Nat.le_refl _) (by omega))]
    · obtain ⟨x', z', h', r', _, _, _, _, _, q1, q2, q3, q4, q5, q6, q7, q8, q9, _⟩ := w5 k hk
      rw [fX10_digest_210, gi_sl, b5, if_neg (nI_ge hk (by omega))]
      simp only [if_pos (inx' (show k < 14 by omega) (by decide)), nI_clamp (show k < 2 ^ 31 by omega), nI_1, note_eq, obS, ga_sl, q1, q2, q3, q4, q5, q6, q7, q8, q9]
  rw [p6X, p6M, obS]
  clear p6X p6M
  generalize itF (fun k x => mx (mx (mx (mx (mx x (ga σ 17 k)) (ga σ 18 k)) (ga σ 19 k)) (ga σ 20 k)) (ga σ 21 k)) 0 n5 x4 = x5
  unfold fX10_digest_210_k
  -- stands
  have p7X : ∀ x, fX7_mixInto σ x = fX7_mixInto_5_k σ x (itF (fun k x => mx (mx (mx x (ga σ 23 k)) (ga σ 24 k)) (ga σ 25 k)) 0 n7 x) (nI n7) := by
    intro x
    refine fold_loop0 (fX7_mixInto_5 (fX7_mixInto_5_k σ x) σ x) (fX7_mixInto_5_k σ x) id (fun k x => mx (mx (mx x (ga σ 23 k)) (ga σ 24 k)) (ga σ 25 k)) n7 (by omega) (fun f x => ?_) (fun f k x hk => ?_) x
    · show fX7_mixInto_5 _ _ _ _ _ _ = _
      rw [fX7_mixInto_5, a7, if_pos (nI_le (Nat.le_refl _) (by omega))]
    · show fX7_mixInto_5 _ _ _ _ _ _ = _
      rw [fX7_mixInto_5, a7, if_neg (nI_ge hk (by omega))]
      simp only [if_pos (inx' (show k < 5 by omega) (by decide)), nI_clamp (show k < 2 ^ 31 by omega), nI_1]
      rfl
  have p7M : ∀ x, fX10_digest_281 (fX10_digest_281_k) KF (sl τ 5 x) 0 = fX10_digest_281_k (sl τ 5 (itF (fun k x => mx (mx (mx x (ga σ 23 k)) (ga σ 24 k)) (ga σ 25 k)) 0 n7 x)) (nI n7) := by
    intro x
    refine fold_loop0 (fX10_digest_281 (fX10_digest_281_k)) (fX10_digest_281_k) (sl τ 5) _ n7 (by omega) (fun f x => ?_) (fun f k x hk => ?_) x
    · rw [fX10_digest_281, gi_sl, b7, if_pos (nI_le (Nat.le_refl _) (by omega))]
    · obtain ⟨x', z', d', _, _, _, q1, q2, q3, q4, q5, q6⟩ := w7 k hk
      rw [fX10_digest_281, gi_sl, b7, if_neg (nI_ge hk (by omega))]
      simp only [if_pos (inx' (show k < 5 by omega) (by decide)), nI_clamp (show k < 2 ^ 31 by omega), nI_1, note_eq, obS, ga_sl, q1, q2, q3, q4, q5, q6]
  rw [p7X, p7M]
  clear p7X p7M
  unfold fX10_digest_281_k fX7_mixInto_5_k
  generalize itF (fun k x => mx (mx (mx x (ga σ 23 k)) (ga σ 24 k)) (ga σ 25 k)) 0 n7 x5 = x6
  -- prices
  have p8 : ∀ j, j < n7 → ∀ (kX : Int64 → Int32 → Option Int64) (v : Int64) (x : Int64), fX7_mixInto_83 kX (fX7_mixInto_83_k kX σ v (nI j)) σ v (nI j) KF x (nI (j + 1)) = kX (itF (fun k x => mx x (prX σ j k)) (j + 1) (n7 - (j + 1)) x) (nI (j + 1)) := by
    intro j hj kX v x
    refine Eq.trans (fold_loop (fX7_mixInto_83 kX (fX7_mixInto_83_k kX σ v (nI j)) σ v (nI j)) (fX7_mixInto_83_k kX σ v (nI j)) id (fun k x => mx x (prX σ j k)) n7 (fun f x => ?_) (fun f k x hk => ?_) (n7 - (j + 1)) (j + 1) KF x (by omega) (Nat.lt_of_lt_of_le (by omega) KF_ge)) ?_
    · show fX7_mixInto_83 _ _ _ _ _ _ _ _ = _
      rw [fX7_mixInto_83, a7, if_pos (nI_le (Nat.le_refl _) (by omega))]
    · show fX7_mixInto_83 _ _ _ _ _ _ _ _ = _
      rw [fX7_mixInto_83, a7, if_neg (nI_ge hk (by omega))]
      simp only [if_pos (inx' (show j < 5 by omega) (by decide)), if_pos (inx' (show k < 5 by omega) (by decide)), nI_clamp (show k < 2 ^ 31 by omega), nI_clamp (show j < 2 ^ 31 by omega), nI_1, prX_eq σ (show j < 5 by omega)]
      rfl
    · unfold fX7_mixInto_83_k
      rw [nI_1]
      rfl
  have p8' : ∀ j, j < n7 → ∀ (kM : St → Int32 → Option (Int64 × St)) (x : Int64), fX10_digest_342 kM (fX10_digest_342_k kM (nI j)) (nI j) KF (sl τ 5 x) (nI (j + 1)) = kM (sl τ 5 (itF (fun k x => mx x (prX σ j k)) (j + 1) (n7 - (j + 1)) x)) (nI (j + 1)) := by
    intro j hj kM x
    refine Eq.trans (fold_loop (fX10_digest_342 kM (fX10_digest_342_k kM (nI j)) (nI j)) (fX10_digest_342_k kM (nI j)) (sl τ 5) (fun k x => mx x (prX σ j k)) n7 (fun f x => ?_) (fun f k x hk => ?_) (n7 - (j + 1)) (j + 1) KF x (by omega) (Nat.lt_of_lt_of_le (by omega) KF_ge)) ?_
    · rw [fX10_digest_342, gi_sl, b7, if_pos (nI_le (Nat.le_refl _) (by omega))]
    · obtain ⟨p, _, _, q1, q2⟩ := pr j k (by omega) (by omega)
      rw [fX10_digest_342, gi_sl, b7, if_neg (nI_ge hk (by omega)), inx5 (show j < 5 by omega) (show k < 5 by omega), if_pos (inx (show 5 * j + k < 25 by omega) (by decide)), nI_clamp (show 5 * j + k < 2 ^ 31 by omega), ga_sl, q2, note_eq, nI_1, q1]
      simp only [obS]
    · unfold fX10_digest_342_k
      rw [nI_1]
  have p9X : ∀ v x, fX7_mixInto_68 (fX7_mixInto_68_k σ v) σ v KF x 0 = some (itF (fun j x => itF (fun k x => mx x (prX σ j k)) (j + 1) (n7 - (j + 1)) x) 0 n7 x) := by
    intro v x
    refine fold_loop0 (fX7_mixInto_68 (fX7_mixInto_68_k σ v) σ v) (fX7_mixInto_68_k σ v) id (fun j x => itF (fun k x => mx x (prX σ j k)) (j + 1) (n7 - (j + 1)) x) n7 (by omega) (fun f x => ?_) (fun f k x hk => ?_) x
    · show fX7_mixInto_68 _ _ _ _ _ _ = _
      rw [fX7_mixInto_68, a7, if_pos (nI_le (Nat.le_refl _) (by omega))]
    · show fX7_mixInto_68 _ _ _ _ _ _ = _
      rw [fX7_mixInto_68, a7, if_neg (nI_ge hk (by omega)), nI_1]
      exact p8 k hk _ _ _
  have p9M : ∀ x, fX10_digest_330 (fX10_digest_330_k) KF (sl τ 5 x) 0 = fX10_digest_330_k (sl τ 5 (itF (fun j x => itF (fun k x => mx x (prX σ j k)) (j + 1) (n7 - (j + 1)) x) 0 n7 x)) (nI n7) := by
    intro x
    refine fold_loop0 (fX10_digest_330 (fX10_digest_330_k)) (fX10_digest_330_k) (sl τ 5) _ n7 (by omega) (fun f x => ?_) (fun f k x hk => ?_) x
    · rw [fX10_digest_330, gi_sl, b7, if_pos (nI_le (Nat.le_refl _) (by omega))]
    · rw [fX10_digest_330, gi_sl, b7, if_neg (nI_ge hk (by omega)), nI_1]
      exact p8' k hk _ _
  rw [p9X, p9M, obS]
  clear p9X p9M p8 p8'
  generalize itF (fun j x => itF (fun k x => mx x (prX σ j k)) (j + 1) (n7 - (j + 1)) x) 0 n7 x6 = x7
  unfold fX10_digest_330_k
  -- light
  have pAX : ∀ x, fX0_mixInto σ x = some (itF (fun k x => mx x (ga σ 36 k)) 0 80 x) := by
    intro x
    refine fold_loop0 (fX0_mixInto_5 (fX0_mixInto_5_k σ x) σ x) (fX0_mixInto_5_k σ x) id (fun k x => mx x (ga σ 36 k)) 80 (by omega) (fun f x => ?_) (fun f k x hk => ?_) x
    · show fX0_mixInto_5 _ _ _ _ _ _ = _
      rw [fX0_mixInto_5, if_pos (show (80 : Int32) ≤ nI 80 by decide)]
    · show fX0_mixInto_5 _ _ _ _ _ _ = _
      rw [fX0_mixInto_5, if_neg (show ¬ (80 : Int32) ≤ nI k from nI_ge (b := 80) hk (by omega))]
      simp only [if_pos (inx' (show k < 80 by omega) (by decide)), nI_clamp (show k < 2 ^ 31 by omega), nI_1]
      rfl
  have pAM : ∀ x, fX10_digest_379 (fX10_digest_379_k) KF (sl τ 5 x) 0 = fX10_digest_379_k (sl τ 5 (itF (fun k x => mx x (ga σ 36 k)) 0 80 x)) (nI 80) := by
    intro x
    refine fold_loop0 (fX10_digest_379 (fX10_digest_379_k)) (fX10_digest_379_k) (sl τ 5) _ 80 (by omega) (fun f x => ?_) (fun f k x hk => ?_) x
    · rw [fX10_digest_379, if_pos (show (80 : Int32) ≤ nI 80 by decide)]
    · obtain ⟨v, _, q1, q2, _⟩ := hcal k hk
      rw [fX10_digest_379, if_neg (show ¬ (80 : Int32) ≤ nI k from nI_ge (b := 80) hk (by omega))]
      simp only [if_pos (inx' (show k < 80 by omega) (by decide)), nI_clamp (show k < 2 ^ 31 by omega), nI_1, note_eq, obS, ga_sl, q1, q2]
  rw [pAX, pAM, obS]
  clear pAX pAM
  generalize itF (fun k x => mx x (ga σ 36 k)) 0 80 x7 = x8
  unfold fX10_digest_379_k
  -- corners
  have pBX : ∀ x, fX3_mixInto σ x = some (itF (fun k x => mx (mx x (ga σ 41 k)) (ga σ 42 k)) 0 n4 x) := by
    intro x
    refine fold_loop0 (fX3_mixInto_5 (fX3_mixInto_5_k σ x) σ x) (fX3_mixInto_5_k σ x) id (fun k x => mx (mx x (ga σ 41 k)) (ga σ 42 k)) n4 (by omega) (fun f x => ?_) (fun f k x hk => ?_) x
    · show fX3_mixInto_5 _ _ _ _ _ _ = _
      rw [fX3_mixInto_5, a4, if_pos (nI_le (Nat.le_refl _) (by omega))]
    · show fX3_mixInto_5 _ _ _ _ _ _ = _
      rw [fX3_mixInto_5, a4, if_neg (nI_ge hk (by omega))]
      simp only [if_pos (inx' (show k < 8 by omega) (by decide)), nI_clamp (show k < 2 ^ 31 by omega), nI_1]
      rfl
  have pBM : ∀ x, fX10_digest_404 (fX10_digest_404_k) KF (sl τ 5 x) 0 = fX10_digest_404_k (sl τ 5 (itF (fun k x => mx (mx x (ga σ 41 k)) (ga σ 42 k)) 0 n4 x)) (nI n4) := by
    intro x
    refine fold_loop0 (fX10_digest_404 (fX10_digest_404_k)) (fX10_digest_404_k) (sl τ 5) _ n4 (by omega) (fun f x => ?_) (fun f k x hk => ?_) x
    · rw [fX10_digest_404, gi_sl, b4, if_pos (nI_le (Nat.le_refl _) (by omega))]
    · obtain ⟨x', y', _, _, q1, q2, q3, q4⟩ := w4 k hk
      rw [fX10_digest_404, gi_sl, b4, if_neg (nI_ge hk (by omega))]
      simp only [if_pos (inx' (show k < 8 by omega) (by decide)), nI_clamp (show k < 2 ^ 31 by omega), nI_1, note_eq, obS, ga_sl, q1, q2, q3, q4]
  rw [pBX, pBM]
  simp only [obS]
  unfold fX10_digest_404_k
  exact OTL.same (hrel _) _
