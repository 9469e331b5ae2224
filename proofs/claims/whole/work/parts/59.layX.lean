/-! the class lays -/
theorem nI_sub {a b : Nat} (h : b ≤ a) : nI a - nI b = nI (a - b) := by
  rw [show nI a = nI (a - b) + nI b by rw [nI_add]; congr 1; omega, Int32.add_sub_cancel]
theorem saf_comm (σ : St) {k j : Nat} (h : k ≠ j) (f g : Nat → Int32) : saf (saf σ k f) j g = saf (saf σ j g) k f := by
  simp only [saf]
  refine Prod.ext rfl (Prod.ext rfl (Prod.ext (funext fun x => ?_) rfl))
  show (if x = j then g else if x = k then f else σ.2.2.1 x) = if x = k then f else if x = j then g else σ.2.2.1 x
  by_cases h1 : x = j
  · rw [if_pos h1, if_pos h1, if_neg (by omega)]
  · rw [if_neg h1, if_neg h1]
/-- a day as it is written, or none -/
def lv (x : Nat) : Int32 := if x < 80 then nI x else -1
def wsX (σ : St) (th lo : Nat → Int32) : St := saf (saf σ 38 th) 40 lo
def LX (σ : St) (C : CD) (fz : Nat → Bool) : Prop := C.1 ≤ 14 ∧ gi σ 10 = nI C.1 ∧ (∀ k, k < C.1 → ga σ 39 k = nI (C.2.1 k) ∧ C.2.1 k < C.1) ∧ (∀ i, i < C.1 → ga σ 19 i = nI (C.2.2.1 i) ∧ 1 ≤ C.2.2.1 i ∧ C.2.2.1 i ≤ 12) ∧ (∀ i, i < C.1 → ga σ 20 i = nI (C.2.2.2.1 i) ∧ C.2.2.2.1 i < 2 ^ 14) ∧ (∀ e, e < 80 → ga σ 36 e = nI (C.2.2.2.2.1 e) ∧ C.2.2.2.2.1 e ≤ 16) ∧ gi σ 18 = nI C.2.2.2.2.2 ∧ C.2.2.2.2.2 ≤ 10 ∧ (∀ e, e < 80 → (ga σ 37 e = 0 ↔ fz e = false)) ∧ ∀ k r, k < C.1 → r < C.1 → (C.2.2.2.1 (C.2.1 k)).testBit r = true → ∃ j, j < k ∧ C.2.1 j = r
/-- with two days frozen besides -/
def exF (fz : Nat → Bool) (v1 v2 : Int32) : Nat → Bool := fun e => fz e || (decide (e < 80) && (decide (nI e = v1) || decide (nI e = v2)))
def ThX (σ : St) (fz : Nat → Bool) : Prop := ∀ e, e ≤ 80 → ga σ 38 e = nI (thN fz e)
theorem thawX {σ : St} {C : CD} {fz : Nat → Bool} (h : LX σ C fz) (h0 : ga σ 38 0 = 0) (v1 v2 : Int32) : ∃ th, fX0_countThawed σ v1 v2 = some (saf σ 38 th) ∧ ∀ e, e ≤ 80 → th e = nI (thN (exF fz v1 v2) e) := by
  have hfz := h.2.2.2.2.2.2.2.2.1
  unfold fX0_countThawed
  obtain ⟨s', ⟨th, a1, a2⟩, a3⟩ := for_loop0 (fX0_countThawed_2 (fX0_countThawed_2_k v1 v2) v1 v2) (fX0_countThawed_2_k v1 v2) (fun k st => ∃ th, st = saf σ 38 th ∧ ∀ e, e ≤ k → th e = nI (thN (exF fz v1 v2) e)) 80 (by decide)
    (fun n st _ => by rw [fX0_countThawed_2, if_pos (show (80 : Int32) ≤ nI 80 by decide)])
    (fun n k st hk => by
      rintro ⟨th, rfl, hI⟩
      have put : ∀ x, thN (exF fz v1 v2) k + x = thN (exF fz v1 v2) (k + 1) → ∃ s', (∃ th, s' = saf σ 38 th ∧ ∀ e, e ≤ k + 1 → th e = nI (thN (exF fz v1 v2) e)) ∧ fX0_countThawed_2 (fX0_countThawed_2_k v1 v2) v1 v2 n (sa (saf σ 38 th) 38 (k + 1) (ga (saf σ 38 th) 38 k + nI x)) (nI (k + 1)) = fX0_countThawed_2 (fX0_countThawed_2_k v1 v2) v1 v2 n s' (nI (k + 1)) := fun x hx => by
        rw [sa_saf, show ga (saf σ 38 th) 38 k = nI (thN (exF fz v1 v2) k) from hI k (Nat.le_refl _), nI_add, hx]
        refine ⟨_, ⟨_, rfl, fun e he => ?_⟩, rfl⟩
        by_cases c : e = k + 1
        · subst c; exact pk_us
        · rw [pk_un c]; exact hI e (by omega)
      rw [fX0_countThawed_2, if_neg (show ¬ (80 : Int32) ≤ nI k from nI_ge (b := 80) hk (by decide)), if_pos (inx hk (by decide)), nI_1, nI_clamp (show k < 2 ^ 31 by omega), nI_clamp (show k + 1 < 2 ^ 31 by omega), if_pos (inx' (show k < 81 by omega) (by decide)), if_pos (inx' (show k + 1 < 81 by omega) (by decide)), show ga (saf σ 38 th) 37 k = ga σ 37 k from rfl]
      have hs := th_s (exF fz v1 v2) k
      have hex : exF fz v1 v2 k = (fz k || (decide (nI k = v1) || decide (nI k = v2))) := by
        show (fz k || (decide (k < 80) && (decide (nI k = v1) || decide (nI k = v2)))) = _
        rw [decide_eq_true hk, Bool.true_and]
      cases hf : fz k
      · rw [if_pos ((hfz k hk).mpr hf)]
        rw [hf, Bool.false_or] at hex
        by_cases c1 : nI k = v1
        · rw [if_pos c1]
          rw [decide_eq_true c1, Bool.true_or] at hex
          exact put 0 (by rw [hs, hex]; rfl)
        · rw [if_neg c1]
          by_cases c2 : nI k = v2
          · rw [if_pos c2]
            rw [decide_eq_true c2, Bool.or_true] at hex
            exact put 0 (by rw [hs, hex]; rfl)
          · rw [if_neg c2]
            rw [decide_eq_false c1, decide_eq_false c2] at hex
            rw [if_pos (inx' (show k < 81 by omega) (by decide)), if_pos (inx' (show k + 1 < 81 by omega) (by decide))]
            exact put 1 (by rw [hs, hex]; rfl)
      · rw [if_neg (fun q => absurd ((hfz k hk).mp q) (by rw [hf]; decide))]
        rw [hf, Bool.true_or] at hex
        exact put 0 (by rw [hs, hex]; rfl))
    σ ⟨ga σ 38, (saf_self σ 38).symm, fun e he => by rw [show e = 0 by omega, h0]; rfl⟩
  refine ⟨th, ?_, a2⟩
  rw [a3, a1]
  rfl
theorem workX {σ : St} {C : CD} {fz fy : Nat → Bool} (h : LX σ C fy) (ht : ThX σ fz) {e : Nat} (he : e ≤ 80) : fX0_workOn σ (nI e) = some (nI (wkN C fz e)) := by
  unfold fX0_workOn wkN
  by_cases c : e < 80
  · obtain ⟨q1, q2⟩ := h.2.2.2.2.2.1 e c
    have b1 := th_b fz e
    have b2 := th_b fz (e + 1)
    have hs := th_s fz e
    rw [if_neg (show ¬ (80 : Int32) ≤ nI e from nI_ge (b := 80) c (by decide)), nI_1, nI_clamp (show e < 2 ^ 31 by omega), nI_clamp (show e + 1 < 2 ^ 31 by omega), if_pos (inx' (show e + 1 < 81 by omega) (by decide)), if_pos (inx' (show e < 81 by omega) (by decide)), ht e (by omega), ht (e + 1) (by omega)]
    cases hf : fz e
    · rw [hf] at hs
      rw [if_neg (nI_ge (by rw [hs]; exact Nat.lt_succ_self _) (by omega)), if_pos (inx' c (by decide)), if_pos ⟨c, rfl⟩, q1]
    · rw [hf] at hs
      rw [if_pos (nI_le (by rw [hs]; exact Nat.le_refl _) (by omega)), if_neg (fun q => absurd q.2 (by decide))]
      rfl
  · rw [if_pos (show (80 : Int32) ≤ nI e from nI_le (a := 80) (by omega) (by omega)), if_neg (fun q => c q.1)]
    rfl
theorem dw_max {b x : Nat} (hb : b < 2 ^ 30) (hx : x < 2 ^ 30) : (if dwN b < nI x then nI x else dwN b) = dwN (max b (x + 1)) := by
  cases b with
  | zero =>
    rw [if_pos (show dwN 0 < nI x from by
      rw [lt_toInt, nI_toInt (by omega)]
      show (-1 : Int) < _
      omega), Nat.max_eq_right (by omega)]
    rfl
  | succ b =>
    show (if nI b < nI x then nI x else nI b) = _
    by_cases c : b < x
    · rw [if_pos (nI_lt c (by omega)), Nat.max_eq_right (by omega)]; rfl
    · rw [if_neg (nI_nlt (by omega) (by omega)), Nat.max_eq_left (by omega)]; rfl
theorem bedX {σ : St} {C : CD} {fz : Nat → Bool} (h : LX σ C fz) {i : Nat} (hi : i < C.1) {lo : Nat → Nat} (hl : ∀ r, r < C.1 → (C.2.2.2.1 i).testBit r = true → lo r < 80 ∧ ga σ 40 r = nI (lo r)) : fX0_lastBed σ (nI i) = some (dwN (bdN (C.2.2.2.1 i) lo C.1)) ∧ bdN (C.2.2.2.1 i) lo C.1 ≤ 80 := by
  have hn := h.1
  have e1 := h.2.1
  obtain ⟨r1, r2⟩ := h.2.2.2.2.1 i hi
  unfold fX0_lastBed
  obtain ⟨s', ⟨a1, a2⟩, a3⟩ := for_loop0 (fX0_lastBed_4 (fX0_lastBed_4_k σ (nI i)) σ (nI i)) (fX0_lastBed_4_k σ (nI i)) (fun k v => v = dwN (bdN (C.2.2.2.1 i) lo k) ∧ bdN (C.2.2.2.1 i) lo k ≤ 80) C.1 (by omega)
    (fun n v _ => by rw [fX0_lastBed_4, e1, if_pos (nI_le (Nat.le_refl _) (by omega))])
    (fun n k v hk => by
      rintro ⟨rfl, hb⟩
      rw [fX0_lastBed_4, e1, if_neg (nI_ge hk (by omega)), if_pos (inx (show i < 14 by omega) (by decide)), nI_clamp (show i < 2 ^ 31 by omega), nI_clamp (show k < 2 ^ 31 by omega), r1, bit_eq (by omega) (by omega), nI_1, bdN]
      cases hbit : (C.2.2.2.1 i).testBit k
      · rw [(bit_f _ k).mpr hbit, if_neg (show ¬ nI 0 = (1 : Int32) by decide), if_neg (show ¬ (false = true) by decide)]
        exact ⟨_, ⟨rfl, hb⟩, rfl⟩
      · obtain ⟨l1, l2⟩ := hl k hk hbit
        rw [(bit_t _ k).mpr hbit, if_pos (show nI 1 = (1 : Int32) by decide), if_pos rfl, if_pos (inx' (show k < 14 by omega) (by decide)), l2, dw_max (by omega) (by omega)]
        exact ⟨_, ⟨rfl, by omega⟩, rfl⟩)
    (-1 : Int32) ⟨rfl, by rw [bdN]; omega⟩
  refine ⟨?_, a2⟩
  rw [a3, a1]
  rfl
theorem betwX {σ : St} {C : CD} {fz fy : Nat → Bool} (h : LX σ C fy) (ht : ThX σ fz) {b e : Nat} (hb : b ≤ 80) (he : e < 80) : ∃ r, fX0_thawedBetween σ (dwN b) (nI e) = some r ∧ (gi σ 18 ≤ r ↔ b = 0 ∨ C.2.2.2.2.2 ≤ thN fz e - thN fz b) := by
  have e1 := h.2.2.2.2.2.2.1
  have hd := h.2.2.2.2.2.2.2.1
  have b1 := th_b fz e
  unfold fX0_thawedBetween
  cases b with
  | zero =>
    rw [if_pos (show dwN 0 = -1 from rfl)]
    exact ⟨_, rfl, ⟨fun _ => Or.inl rfl, fun _ => by rw [le_toInt]; exact Int.le_refl _⟩⟩
  | succ x =>
    rw [show dwN (x + 1) = nI x from rfl, if_neg (nI_ne1 (by omega))]
    by_cases c : e ≤ x
    · rw [if_pos (nI_le c (by omega))]
      have := th_le (fz := fz) (show e ≤ x + 1 by omega)
      refine ⟨_, rfl, ?_⟩
      rw [e1, show thN fz e - thN fz (x + 1) = 0 by omega]
      constructor
      · intro q
        have : ¬ 0 < C.2.2.2.2.2 := fun w => absurd q (nI_ge (a := 0) w (by omega))
        exact Or.inr (by omega)
      · rintro (q | q)
        · omega
        · exact nI_le (b := 0) q (by decide)
    · rw [if_neg (nI_ge (by omega) (by omega)), if_pos (inx (show e < 81 by omega) (by decide)), nI_1, if_pos (inx (show x + 1 < 81 by omega) (by decide)), nI_clamp (by omega), nI_clamp (by omega), ht e (by omega), ht (x + 1) (by omega), nI_sub (th_le (by omega))]
      refine ⟨_, rfl, ?_⟩
      rw [e1]
      constructor
      · intro q
        refine Or.inr (Classical.byContradiction fun w => absurd q (nI_ge (by omega) (by omega)))
      · rintro (q | q)
        · omega
        · exact nI_le q (by omega)
theorem go_left {C : CD} {fz : Nat → Bool} {lo : Nat → Nat} {i : Nat} (hl : ∀ e, e < 80 → C.2.2.2.2.1 e ≤ 16) : ∀ f e l, l ≤ 16 → (goN C fz lo i f e l).2 ≤ 16
  | 0, e, l, h => h
  | f + 1, e, l, h => by
    rw [goN]
    by_cases c : 80 ≤ e
    · rw [if_pos c]; exact h
    · rw [if_neg c]
      by_cases q : l < C.2.2.1 i ∨ dryB C fz lo i e = false
      · rw [if_pos q]
        refine go_left hl f (e + 1) _ ?_
        unfold wkN
        by_cases w : e + 1 < 80 ∧ fz (e + 1) = false
        · rw [if_pos w]; exact hl _ w.1
        · rw [if_neg w]; omega
      · rw [if_neg q]; exact h
theorem wk_le {C : CD} {fz : Nat → Bool} (hl : ∀ e, e < 80 → C.2.2.2.2.1 e ≤ 16) (e : Nat) : wkN C fz e ≤ 16 := by
  unfold wkN
  by_cases w : e < 80 ∧ fz e = false
  · rw [if_pos w]; exact hl _ w.1
  · rw [if_neg w]; omega
theorem lay_left {C : CD} {fz : Nat → Bool} (hl : ∀ e, e < 80 → C.2.2.2.2.1 e ≤ 16) : ∀ k, (layN C fz k).2.1 ≤ 16
  | 0 => wk_le hl 0
  | k + 1 => by
    have := go_left (fz := fz) (lo := (layN C fz k).2.2) (i := C.2.1 k) hl 81 (layN C fz k).1 (layN C fz k).2.1 (lay_left hl k)
    show (goN C fz (layN C fz k).2.2 (C.2.1 k) 81 (layN C fz k).1 (layN C fz k).2.1).2 - C.2.2.1 (C.2.1 k) ≤ 16
    omega
theorem go_fit {C : CD} {fz : Nat → Bool} {lo : Nat → Nat} {i : Nat} : ∀ f e l, 80 ≤ e + f → (goN C fz lo i f e l).1 < 80 → C.2.2.1 i ≤ (goN C fz lo i f e l).2
  | 0, e, l, h, h2 => absurd h2 (show ¬ e < 80 by omega)
  | f + 1, e, l, h, h2 => by
    rw [goN] at h2 ⊢
    by_cases c : 80 ≤ e
    · rw [if_pos c] at h2; exact absurd h2 (by show ¬ e < 80; omega)
    · rw [if_neg c] at h2 ⊢
      by_cases q : l < C.2.2.1 i ∨ dryB C fz lo i e = false
      · rw [if_pos q] at h2 ⊢
        exact go_fit f (e + 1) _ (by omega) h2
      · rw [if_neg q]
        exact Nat.le_of_not_lt (fun w => q (Or.inl w))
/-- the days that a stone waits -/
theorem waitX {σ : St} {C : CD} {fz fy : Nat → Bool} (h : LX σ C fy) (ht : ThX σ fz) {i : Nat} (hi : i < C.1) {lo : Nat → Nat} (hb : bdN (C.2.2.2.1 i) lo C.1 ≤ 80) (k18 : St → Int32 → Int32 → Int32 → Option (Int32 × St)) (K : Int32 → Int32 → Option (Int32 × St)) (v1 v2 v5 v6 : Int32) : ∀ r e l f F, e + r = 80 → r < F → r < f → l ≤ 16 → fX0_endWith_59 k18 K σ v1 v2 v5 v6 (nI (C.2.2.1 i)) (dwN (bdN (C.2.2.2.1 i) lo C.1)) F (nI e) (nI l) = K (nI (goN C fz lo i f e l).1) (nI (goN C fz lo i f e l).2) := by
  have hli : ∀ e, e < 80 → C.2.2.2.2.1 e ≤ 16 := fun e he => (h.2.2.2.2.2.1 e he).2
  have hhr := (h.2.2.2.1 i hi).2.2
  intro r
  induction r with
  | zero =>
    intro e l f F he hF hf hl
    cases F with
    | zero => omega
    | succ F =>
      cases f with
      | zero => omega
      | succ f =>
        rw [fX0_endWith_59, goN, if_pos (show (80 : Int32) ≤ nI e from nI_le (a := 80) (by omega) (by omega)), if_pos (show 80 ≤ e by omega)]
  | succ r ih =>
    intro e l f F he hF hf hl
    cases F with
    | zero => omega
    | succ F =>
      cases f with
      | zero => omega
      | succ f =>
        have hnx := ih (e + 1) (wkN C fz (e + 1)) f F (by omega) (by omega) (by omega) (wk_le hli _)
        rw [fX0_endWith_59, goN, if_neg (show ¬ (80 : Int32) ≤ nI e from nI_ge (b := 80) (by omega) (by decide)), if_neg (show ¬ 80 ≤ e by omega), nI_1, workX h ht (show e + 1 ≤ 80 by omega)]
        simp only [obS]
        by_cases c : l < C.2.2.1 i
        · rw [if_pos (nI_lt c (by omega)), if_pos (Or.inl c)]
          exact hnx
        · rw [if_neg (nI_nlt (by omega) (by omega))]
          obtain ⟨x, x1, x2⟩ := betwX h ht hb (show e < 80 by omega)
          rw [x1]
          simp only [obS]
          cases hd : dryB C fz lo i e
          · have : ¬ gi σ 18 ≤ x := fun q => by
              have := x2.mp q
              unfold dryB at hd
              rw [decide_eq_false_iff_not] at hd
              exact hd this
            rw [if_neg this, if_pos (Or.inr rfl)]
            exact hnx
          · have : gi σ 18 ≤ x := x2.mpr (by unfold dryB at hd; rw [decide_eq_true_iff] at hd; exact hd)
            rw [if_pos this, if_neg (fun q => q.elim c (fun w => absurd w (by decide)))]
/-- what is written of the stones laid so far -/
def LoOK (C : CD) (fz : Nat → Bool) (k : Nat) (lo : Nat → Int32) : Prop := ∀ j, j < k → lo (C.2.1 j) = lv ((layN C fz k).2.2 (C.2.1 j))
theorem LoOK_s {C : CD} {fz : Nat → Bool} {k : Nat} {lo : Nat → Int32} (h : LoOK C fz k lo) : LoOK C fz (k + 1) (upd lo (C.2.1 k) (lv (layN C fz (k + 1)).1)) := fun j hj => by
  show upd lo (C.2.1 k) (lv (layN C fz (k + 1)).1) (C.2.1 j) = lv (if C.2.1 j = C.2.1 k then (layN C fz (k + 1)).1 else (layN C fz k).2.2 (C.2.1 j))
  by_cases e : C.2.1 j = C.2.1 k
  · rw [if_pos e, e]; exact pk_us
  · have hjk : j ≠ k := fun q => e (by rw [q])
    rw [if_neg e, pk_un e]
    exact h j (by omega)
theorem ws_40 (σ : St) (th lo : Nat → Int32) (i : Nat) (v : Int32) : sa (wsX σ th lo) 40 i v = wsX σ th (upd lo i v) := sa_saf (saf σ 38 th) 40 i lo v
theorem noneX {σ : St} {C : CD} {fz fy : Nat → Bool} (h : LX σ C fy) {th lo : Nat → Int32} {k : Nat} (hk : k < C.1) (hlo : LoOK C fz k lo) (h80 : (layN C fz (k + 1)).1 = 80) : ∃ lo', fX0_layOnNone (wsX σ th lo) (nI k) = some (wsX σ th lo') ∧ LoOK C fz C.1 lo' := by
  have hn := h.1
  unfold fX0_layOnNone
  have hover : ∀ m, k ≤ m → (layN C fz (m + 1)).1 = 80 := fun m hm => by
    have := lay_mono (C := C) (fz := fz) (a := k + 1) (m - k)
    rw [show k + 1 + (m - k) = m + 1 by omega] at this
    have := lay_le (C := C) (fz := fz) (m + 1)
    omega
  obtain ⟨s', ⟨_, lo', a1, a2⟩, a3⟩ := for_loop (fX0_layOnNone_2 (fX0_layOnNone_2_k (nI k)) (nI k)) (fX0_layOnNone_2_k (nI k)) (fun m st => k ≤ m ∧ ∃ lo, st = wsX σ th lo ∧ LoOK C fz m lo) C.1
    (fun n st => by
      rintro ⟨_, lo, rfl, _⟩
      rw [fX0_layOnNone_2, show gi (wsX σ th lo) 10 = nI C.1 from h.2.1, if_pos (nI_le (Nat.le_refl _) (by omega))])
    (fun n m st hm => by
      rintro ⟨hkm, lo, rfl, hL⟩
      obtain ⟨o1, o2⟩ := h.2.2.1 m hm
      refine ⟨wsX σ th (upd lo (C.2.1 m) (lv (layN C fz (m + 1)).1)), ⟨by omega, _, rfl, LoOK_s hL⟩, ?_⟩
      rw [fX0_layOnNone_2, show gi (wsX σ th lo) 10 = nI C.1 from h.2.1, if_neg (nI_ge hm (by omega)), if_pos (inx (show m < 14 by omega) (by decide)), nI_clamp (show m < 2 ^ 31 by omega), show ga (wsX σ th lo) 39 m = nI (C.2.1 m) from o1, if_pos (inx (show C.2.1 m < 14 by omega) (by decide)), nI_clamp (by omega), ws_40, nI_1, hover m hkm]
      rfl) (C.1 - k) k KF (wsX σ th lo) (by omega) (by have := KF_ge; omega) ⟨Nat.le_refl _, lo, rfl, hlo⟩
  refine ⟨lo', ?_, a2⟩
  rw [a3, a1]
  rfl
theorem endLoopX {σ : St} {C : CD} {fz fy : Nat → Bool} (h : LX σ C fy) {th : Nat → Int32} (ht : ∀ e, e ≤ 80 → th e = nI (thN fz e)) (v1 v2 : Int32) : ∀ (r k F : Nat) (lo : Nat → Int32), k + r = C.1 → r < F → LoOK C fz k lo → (layN C fz k).1 < 80 → ∃ lo', fX0_endWith_18 (fX0_endWith_18_k v1 v2) v1 v2 F (wsX σ th lo) (nI (layN C fz k).1) (nI (layN C fz k).2.1) (nI k) = some (nI (endN C fz), wsX σ th lo') ∧ LoOK C fz C.1 lo' := by
  have hn := h.1
  have hli : ∀ e, e < 80 → C.2.2.2.2.1 e ≤ 16 := fun e he => (h.2.2.2.2.2.1 e he).2
  intro r
  induction r with
  | zero =>
    intro k F lo hk hF hlo h80
    cases F with
    | zero => omega
    | succ F =>
      have : k = C.1 := by omega
      subst this
      refine ⟨lo, ?_, hlo⟩
      rw [fX0_endWith_18, show gi (wsX σ th lo) 10 = nI C.1 from h.2.1, if_pos (nI_le (Nat.le_refl _) (by omega))]
      rfl
  | succ r ih =>
    intro k F lo hk hF hlo h80
    cases F with
    | zero => omega
    | succ F =>
      have hkn : k < C.1 := by omega
      obtain ⟨o1, o2⟩ := h.2.2.1 k hkn
      have hW : LX (wsX σ th lo) C fy := h
      have hT : ThX (wsX σ th lo) fz := ht
      obtain ⟨b1, b2⟩ := bedX hW o2 (lo := (layN C fz k).2.2) (fun q hq hb => by
        obtain ⟨j, j1, j2⟩ := h.2.2.2.2.2.2.2.2.2 k q hkn hq hb
        have h1 := lay_lo (C := C) (fz := fz) k j j1
        have h2 := hlo j j1
        rw [j2] at h1 h2
        refine ⟨by omega, ?_⟩
        show lo q = _
        rw [h2]
        unfold lv
        rw [if_pos (by omega)])
      have hwait := waitX hW hT o2 b2 (fun σ18' v3_18' v4_18' v5_18' => fX0_endWith_18 (fX0_endWith_18_k v1 v2) v1 v2 F σ18' v3_18' v4_18' v5_18') (fX0_endWith_59_k (fun σ18' v3_18' v4_18' v5_18' => fX0_endWith_18 (fX0_endWith_18_k v1 v2) v1 v2 F σ18' v3_18' v4_18' v5_18') (wsX σ th lo) v1 v2 (nI k) (nI (C.2.1 k)) (nI (C.2.2.1 (C.2.1 k))) (dwN (bdN (C.2.2.2.1 (C.2.1 k)) (layN C fz k).2.2 C.1))) v1 v2 (nI k) (nI (C.2.1 k)) (80 - (layN C fz k).1) (layN C fz k).1 (layN C fz k).2.1 81 KF (by omega) (by have := KF_ge; omega) (by omega) (lay_left hli k)
      rw [fX0_endWith_18, show gi (wsX σ th lo) 10 = nI C.1 from h.2.1, if_neg (nI_ge hkn (by omega)), if_pos (inx (show k < 14 by omega) (by decide)), nI_clamp (show k < 2 ^ 31 by omega), show ga (wsX σ th lo) 39 k = nI (C.2.1 k) from o1, if_pos (inx (show C.2.1 k < 14 by omega) (by decide)), nI_clamp (by omega), b1]
      simp only [obS]
      rw [show ga (wsX σ th lo) 19 (C.2.1 k) = nI (C.2.2.1 (C.2.1 k)) from (h.2.2.2.1 _ o2).1, hwait]
      have hfit := go_fit (C := C) (fz := fz) (lo := (layN C fz k).2.2) (i := C.2.1 k) 81 (layN C fz k).1 (layN C fz k).2.1 (by omega)
      have hle := go_le (C := C) (fz := fz) (lo := (layN C fz k).2.2) (i := C.2.1 k) 81 (layN C fz k).1 (layN C fz k).2.1 (by omega)
      have hs1 : (layN C fz (k + 1)).1 = (goN C fz (layN C fz k).2.2 (C.2.1 k) 81 (layN C fz k).1 (layN C fz k).2.1).1 := rfl
      have hs2 : (layN C fz (k + 1)).2.1 = (goN C fz (layN C fz k).2.2 (C.2.1 k) 81 (layN C fz k).1 (layN C fz k).2.1).2 - C.2.2.1 (C.2.1 k) := rfl
      unfold fX0_endWith_59_k
      by_cases c : (goN C fz (layN C fz k).2.2 (C.2.1 k) 81 (layN C fz k).1 (layN C fz k).2.1).1 < 80
      · rw [if_pos (show nI (goN C fz (layN C fz k).2.2 (C.2.1 k) 81 (layN C fz k).1 (layN C fz k).2.1).1 < (80 : Int32) from nI_lt (b := 80) c (by decide)), if_pos (inx (show C.2.1 k < 14 by omega) (by decide)), nI_clamp (by omega), ws_40, nI_sub (hfit c), nI_1]
        have hL := LoOK_s hlo
        rw [hs1, show lv (goN C fz (layN C fz k).2.2 (C.2.1 k) 81 (layN C fz k).1 (layN C fz k).2.1).1 = nI (goN C fz (layN C fz k).2.2 (C.2.1 k) 81 (layN C fz k).1 (layN C fz k).2.1).1 from if_pos c] at hL
        exact ih (k + 1) F _ (by omega) (by omega) hL (by rw [hs1]; exact c)
      · rw [if_neg (show ¬ nI (goN C fz (layN C fz k).2.2 (C.2.1 k) 81 (layN C fz k).1 (layN C fz k).2.1).1 < (80 : Int32) from nI_nlt (b := 80) (by omega) (by omega))]
        have h80' : (layN C fz (k + 1)).1 = 80 := by rw [hs1]; omega
        obtain ⟨lo', q1, q2⟩ := noneX h (th := th) hkn hlo h80'
        rw [q1]
        simp only [obS]
        refine ⟨lo', ?_, q2⟩
        have hm := lay_mono (C := C) (fz := fz) (a := k + 1) (C.1 - (k + 1))
        rw [show k + 1 + (C.1 - (k + 1)) = C.1 by omega] at hm
        have := lay_le (C := C) (fz := fz) C.1
        rw [show endN C fz = 80 by unfold endN; omega]
        rfl
theorem endX {σ : St} {C : CD} {fy : Nat → Bool} (h : LX σ C fy) (h0 : ga σ 38 0 = 0) (v1 v2 : Int32) : ∃ th lo, fX0_endWith σ v1 v2 = some (nI (endN C (exF fy v1 v2)), wsX σ th lo) ∧ th 0 = 0 ∧ LoOK C (exF fy v1 v2) C.1 lo := by
  have hn := h.1
  obtain ⟨th, t1, t2⟩ := thawX h h0 v1 v2
  have hW : LX (saf σ 38 th) C fy := h
  unfold fX0_endWith
  rw [t1]
  simp only [obS]
  rw [show fX0_workOn (saf σ 38 th) 0 = some (nI (wkN C (exF fy v1 v2) 0)) from workX hW t2 (Nat.zero_le _)]
  simp only [obS]
  obtain ⟨lo', q1, q2⟩ := endLoopX h t2 v1 v2 C.1 0 KF (ga σ 40) (by omega) (by have := KF_ge; omega) (fun j hj => by omega) (show 0 < 80 by decide)
  rw [show wsX σ th (ga σ 40) = saf σ 38 th from saf_self (saf σ 38 th) 40] at q1
  exact ⟨th, lo', q1, (t2 0 (Nat.zero_le _)).trans rfl, q2⟩
