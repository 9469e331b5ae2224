/-! the worst weather, as the class finds it -/
def nmX (σ : St) (th lo : Nat → Int32) (w a b : Int32) : St := si (si (si (wsX σ th lo) 20 w) 21 a) 22 b
theorem ws_nm (σ : St) (th lo th' lo' : Nat → Int32) (w a b : Int32) : wsX (nmX σ th lo w a b) th' lo' = nmX σ th' lo' w a b := by
  show si (si (si (saf (saf (saf (saf σ 38 th) 40 lo) 38 th') 40 lo') 20 w) 21 a) 22 b = _
  rw [saf_comm (saf σ 38 th) (show 40 ≠ 38 by decide), saf_saf, saf_saf]
  rfl
theorem si_nm (σ : St) (th lo : Nat → Int32) (w a b w' a' b' : Int32) : si (si (si (nmX σ th lo w a b) 20 w') 21 a') 22 b' = nmX σ th lo w' a' b' := by
  unfold nmX
  simp only [si]
  refine Prod.ext (funext fun j => ?_) rfl
  show (if j = 22 then b' else if j = 21 then a' else if j = 20 then w' else if j = 22 then b else if j = 21 then a else if j = 20 then w else (wsX σ th lo).1 j) = if j = 22 then b' else if j = 21 then a' else if j = 20 then w' else (wsX σ th lo).1 j
  by_cases h1 : j = 22 <;> by_cases h2 : j = 21 <;> by_cases h3 : j = 20 <;> simp [h1, h2, h3]
theorem dw_le {e w : Nat} (he : e < 2 ^ 30) (hw : w < 2 ^ 30) : nI e ≤ dwN w ↔ e + 1 ≤ w := by
  cases w with
  | zero =>
    constructor
    · intro q
      rw [le_toInt, nI_toInt (by omega), show (dwN 0).toInt = -1 from rfl] at q
      omega
    · intro q; omega
  | succ w =>
    show nI e ≤ nI w ↔ _
    constructor
    · intro q
      exact Classical.byContradiction fun c => absurd q (nI_ge (by omega) (by omega))
    · intro q; exact nI_le (by omega) (by omega)
theorem dw_80 {w : Nat} (hw : w < 2 ^ 30) : dwN w = (80 : Int32) ↔ w = 81 := by
  cases w with
  | zero => exact ⟨fun q => absurd q (by decide), fun q => by omega⟩
  | succ w =>
    show nI w = nI 80 ↔ _
    rw [nI_eq (by omega) (by decide)]
    omega
theorem exF_1 {fz : Nat → Bool} {a : Nat} (ha : a < 80) : exF fz (nI a) (-1) = plusF fz a := by
  funext e
  unfold exF plusF
  by_cases c : e < 80
  · rw [decide_eq_true c, decide_eq_false (show ¬ nI e = -1 from nI_ne1 (by omega)), Bool.true_and, Bool.or_false]
    by_cases q : e = a
    · rw [decide_eq_true q, decide_eq_true (by rw [q])]
    · rw [decide_eq_false q, decide_eq_false (fun w => q (nI_inj (by omega) (by omega) w))]
  · rw [decide_eq_false c, Bool.false_and, decide_eq_false (show ¬ e = a by omega)]
theorem exF_2 {fz : Nat → Bool} {a b : Nat} (ha : a < 80) (hb : b < 80) : exF fz (nI a) (nI b) = plusF (plusF fz a) b := by
  funext e
  unfold exF plusF
  by_cases c : e < 80
  · rw [decide_eq_true c, Bool.true_and, ← Bool.or_assoc]
    have h1 : decide (nI e = nI a) = decide (e = a) := decide_eq_decide.mpr (nI_eq (by omega) (by omega))
    have h2 : decide (nI e = nI b) = decide (e = b) := decide_eq_decide.mpr (nI_eq (by omega) (by omega))
    rw [h1, h2]
  · rw [decide_eq_false c, Bool.false_and, decide_eq_false (show ¬ e = a by omega), decide_eq_false (show ¬ e = b by omega), Bool.or_false, Bool.or_false]
theorem tryX {σ : St} {C : CD} {fz : Nat → Bool} (h : LX σ C fz) {th lo : Nat → Int32} (h0 : th 0 = 0) {w : Nat} (hw : w ≤ 81) (a b v1 v2 : Int32) : ∃ th' lo' w' a' b', fX0_tryFrost (nmX σ th lo (dwN w) a b) v1 v2 = some (nmX σ th' lo' (dwN w') a' b') ∧ th' 0 = 0 ∧ ((endN C (exF fz v1 v2) + 1 ≤ w ∧ w' = w ∧ a' = a ∧ b' = b) ∨ (w < endN C (exF fz v1 v2) + 1 ∧ w' = endN C (exF fz v1 v2) + 1 ∧ a' = v1 ∧ b' = v2)) := by
  have hL : LX (nmX σ th lo (dwN w) a b) C fz := h
  obtain ⟨th', lo', q1, q2, q3⟩ := endX hL h0 v1 v2
  have he := end_le (C := C) (fz := exF fz v1 v2)
  rw [ws_nm] at q1
  unfold fX0_tryFrost
  rw [q1]
  simp only [obS]
  rw [show gi (nmX σ th' lo' (dwN w) a b) 20 = dwN w from rfl]
  by_cases c : endN C (exF fz v1 v2) + 1 ≤ w
  · rw [if_pos ((dw_le (by omega) (by omega)).mpr c)]
    exact ⟨th', lo', w, a, b, rfl, q2, Or.inl ⟨c, rfl, rfl, rfl⟩⟩
  · rw [if_neg (fun q => c ((dw_le (by omega) (by omega)).mp q)), si_nm]
    exact ⟨th', lo', _, v1, v2, rfl, q2, Or.inr ⟨by omega, rfl, rfl, rfl⟩⟩
theorem best_81 {V : Nat → Bool} {val : Nat → Nat} {N w q : Nat} (hv : ∀ p, val p ≤ 80) (h : BestOK V val N w q) : w ≤ 81 := by
  rcases h with ⟨h1, _⟩ | ⟨e, h1, _, _, h4, _⟩
  · omega
  · have := hv q; omega
theorem best_ge {V : Nat → Bool} {val : Nat → Nat} {N w q p : Nat} (h : BestOK V val N w q) (hp : p < N) (hV : V p = true) : val p + 1 ≤ w := by
  rcases h with ⟨_, h2⟩ | ⟨e, h1, _, _, _, h5⟩
  · rw [h2 p hp] at hV; exact absurd hV (by decide)
  · have := (h5 p hp hV).1; omega
/-- what is found, and where it is written -/
def Fd1 (σ : St) (C : CD) (fz : Nat → Bool) (st : St) : Prop := ∃ th lo w q a b, st = nmX σ th lo (dwN w) a b ∧ th 0 = 0 ∧ BestOK (V1 fz) (val1 C fz) 60 w q ∧ (w ≠ 0 → a = nI q)
theorem oneX {σ : St} {C : CD} {fz : Nat → Bool} (h : LX σ C fz) : ∀ (r k F : Nat) (th lo : Nat → Int32) (w q : Nat) (a b : Int32), k + r = 60 → r < F → th 0 = 0 → BestOK (V1 fz) (val1 C fz) k w q → (w ≠ 0 → a = nI q) → ∃ st, fX0_findWorst_37 (fX0_findWorst_37_k 1 (nI (endN C fz))) 1 (nI (endN C fz)) F (nmX σ th lo (dwN w) a b) (nI k) = some st ∧ Fd1 σ C fz st := by
  have he := end_le (C := C) (fz := fz)
  have hv : ∀ p, val1 C fz p ≤ 80 := fun p => end_le
  have hfz := h.2.2.2.2.2.2.2.2.1
  intro r
  induction r with
  | zero =>
    intro k F th lo w q a b hk hF h0 hB hw
    cases F with
    | zero => omega
    | succ F =>
      have : k = 60 := by omega
      subst this
      refine ⟨_, ?_, th, lo, w, q, a, b, rfl, h0, hB, hw⟩
      rw [fX0_findWorst_37, if_neg (show ¬ (1 : Int32) ≤ 0 by decide), if_pos (show (60 : Int32) ≤ nI 60 by decide)]
      rfl
  | succ r ih =>
    intro k F th lo w q a b hk hF h0 hB hw
    cases F with
    | zero => omega
    | succ F =>
      have hw81 := best_81 hv hB
      rw [fX0_findWorst_37, if_neg (show ¬ (1 : Int32) ≤ 0 by decide), if_neg (show ¬ (60 : Int32) ≤ nI k from nI_ge (b := 60) (by omega) (by decide)), show gi (nmX σ th lo (dwN w) a b) 20 = dwN w from rfl]
      by_cases c80 : w = 81
      · rw [if_pos ((dw_80 (by omega)).mpr c80)]
        refine ⟨_, rfl, th, lo, w, q, a, b, rfl, h0, ?_, hw⟩
        have := best_more hB (60 - k) (fun p _ _ _ => by have := hv p; omega)
        rw [show k + (60 - k) = 60 by omega] at this
        exact this
      · rw [if_neg (fun z => c80 ((dw_80 (by omega)).mp z)), if_pos (inx (show k < 80 by omega) (by decide)), nI_clamp (show k < 2 ^ 31 by omega), show ga (nmX σ th lo (dwN w) a b) 37 k = ga σ 37 k from rfl, nI_1]
        cases hf : fz k
        · rw [if_pos ((hfz k (by omega)).mpr hf), if_pos rfl]
          obtain ⟨th', lo', w', a', b', q1, q2, q3⟩ := tryX h h0 hw81 a b (nI k) (-1)
          rw [exF_1 (show k < 80 by omega)] at q3
          rw [q1]
          simp only [obS]
          have hV : V1 fz k = true := by unfold V1; rw [hf]; rfl
          have hB' : ∃ q', BestOK (V1 fz) (val1 C fz) (k + 1) w' q' ∧ (w' ≠ 0 → a' = nI q') := by
            rcases q3 with ⟨x1, x2, x3, x4⟩ | ⟨x1, x2, x3, x4⟩
            · subst x2 x3
              exact ⟨q, best_skip hB (fun _ => x1), hw⟩
            · subst x2 x3
              exact ⟨k, best_take hB hV x1, fun _ => rfl⟩
          obtain ⟨q', hB', hw'⟩ := hB'
          by_cases cp : k ≤ endN C fz
          · rw [if_pos (nI_le cp (by omega))]
            exact ih (k + 1) F th' lo' w' q' a' b' (by omega) (by omega) q2 hB' hw'
          · rw [if_neg (nI_ge (by omega) (by omega))]
            refine ⟨_, rfl, th', lo', w', q', a', b', rfl, q2, ?_, hw'⟩
            have hk' := best_ge hB' (show k < k + 1 by omega) hV
            have ek : val1 C fz k = endN C fz := end_plus (by omega)
            have := best_more hB' (60 - (k + 1)) (fun p hp _ _ => by
              have : val1 C fz p = endN C fz := end_plus (by omega)
              omega)
            rw [show k + 1 + (60 - (k + 1)) = 60 by omega] at this
            exact this
        · rw [if_neg (fun z => absurd ((hfz k (by omega)).mp z) (by rw [hf]; decide))]
          exact ih (k + 1) F th lo w q a b (by omega) (by omega) h0 (best_skip hB (fun z => by unfold V1 at z; rw [hf] at z; exact absurd z (by decide))) hw
def Fd2 (σ : St) (C : CD) (fz : Nat → Bool) (N : Nat) (st : St) : Prop := ∃ th lo w q a b, st = nmX σ th lo (dwN w) a b ∧ th 0 = 0 ∧ BestOK (V2 fz) (val2 C fz) N w q ∧ (w ≠ 0 → a = nI (q / 60) ∧ b = nI (q % 60))
theorem div60 {a b : Nat} (hb : b < 60) : (60 * a + b) / 60 = a ∧ (60 * a + b) % 60 = b := by omega
theorem V2_at {fz : Nat → Bool} {a b : Nat} (hb : b < 60) : V2 fz (60 * a + b) = (decide (a < b) && (!fz a && !fz b)) := by
  unfold V2
  rw [(div60 hb).1, (div60 hb).2]
theorem val2_at {C : CD} {fz : Nat → Bool} {a b : Nat} (hb : b < 60) : val2 C fz (60 * a + b) = endN C (plusF (plusF fz a) b) := by
  unfold val2
  rw [(div60 hb).1, (div60 hb).2]
theorem secX {σ : St} {C : CD} {fz : Nat → Bool} (h : LX σ C fz) {x : Nat} (hx : x < 60) (hfx : fz x = false) : ∀ (r k F : Nat) (th lo : Nat → Int32) (w q : Nat) (a b : Int32), k + r = 60 → x < k → r < F → th 0 = 0 → BestOK (V2 fz) (val2 C fz) (60 * x + k) w q → (w ≠ 0 → a = nI (q / 60) ∧ b = nI (q % 60)) → ∃ st, fX0_trySecond_11 (fX0_trySecond_11_k (nI x) (nI (endN C (plusF fz x)))) (nI x) (nI (endN C (plusF fz x))) F (nmX σ th lo (dwN w) a b) (nI k) = some st ∧ Fd2 σ C fz (60 * (x + 1)) st := by
  have he := end_le (C := C) (fz := plusF fz x)
  have hv : ∀ p, val2 C fz p ≤ 80 := fun p => end_le
  have hfz := h.2.2.2.2.2.2.2.2.1
  intro r
  induction r with
  | zero =>
    intro k F th lo w q a b hk hxk hF h0 hB hw
    cases F with
    | zero => omega
    | succ F =>
      have : k = 60 := by omega
      subst this
      refine ⟨_, ?_, th, lo, w, q, a, b, rfl, h0, by rw [show 60 * (x + 1) = 60 * x + 60 by omega]; exact hB, hw⟩
      rw [fX0_trySecond_11, if_pos (show (60 : Int32) ≤ nI 60 by decide)]
      rfl
  | succ r ih =>
    intro k F th lo w q a b hk hxk hF h0 hB hw
    cases F with
    | zero => omega
    | succ F =>
      have hw81 := best_81 hv hB
      have hk60 : k < 60 := by omega
      rw [fX0_trySecond_11, if_neg (show ¬ (60 : Int32) ≤ nI k from nI_ge (b := 60) (by omega) (by decide)), show gi (nmX σ th lo (dwN w) a b) 20 = dwN w from rfl]
      by_cases c80 : w = 81
      · rw [if_pos ((dw_80 (by omega)).mpr c80)]
        refine ⟨_, rfl, th, lo, w, q, a, b, rfl, h0, ?_, hw⟩
        have := best_more hB (60 - k) (fun p _ _ _ => by have := hv p; omega)
        rw [show 60 * x + k + (60 - k) = 60 * (x + 1) by omega] at this
        exact this
      · rw [if_neg (fun z => c80 ((dw_80 (by omega)).mp z)), if_pos (inx (show k < 80 by omega) (by decide)), nI_clamp (show k < 2 ^ 31 by omega), show ga (nmX σ th lo (dwN w) a b) 37 k = ga σ 37 k from rfl, nI_1]
        cases hf : fz k
        · rw [if_pos ((hfz k (by omega)).mpr hf)]
          obtain ⟨th', lo', w', a', b', q1, q2, q3⟩ := tryX h h0 hw81 a b (nI x) (nI k)
          rw [exF_2 (show x < 80 by omega) (show k < 80 by omega), ← val2_at hk60] at q3
          rw [q1]
          simp only [obS]
          have hV : V2 fz (60 * x + k) = true := by rw [V2_at hk60, hf, hfx, decide_eq_true hxk]; rfl
          have hB' : ∃ q', BestOK (V2 fz) (val2 C fz) (60 * x + k + 1) w' q' ∧ (w' ≠ 0 → a' = nI (q' / 60) ∧ b' = nI (q' % 60)) := by
            rcases q3 with ⟨x1, x2, x3, x4⟩ | ⟨x1, x2, x3, x4⟩
            · subst x2 x3 x4
              exact ⟨q, best_skip hB (fun _ => x1), hw⟩
            · subst x2 x3 x4
              exact ⟨60 * x + k, best_take hB hV x1, fun _ => by rw [(div60 hk60).1, (div60 hk60).2]; exact ⟨rfl, rfl⟩⟩
          obtain ⟨q', hB', hw'⟩ := hB'
          by_cases cp : k ≤ endN C (plusF fz x)
          · rw [if_pos (nI_le cp (by omega))]
            exact ih (k + 1) F th' lo' w' q' a' b' (by omega) (by omega) (by omega) q2 hB' hw'
          · rw [if_neg (nI_ge (by omega) (by omega))]
            refine ⟨_, rfl, th', lo', w', q', a', b', rfl, q2, ?_, hw'⟩
            have hk' := best_ge hB' (show 60 * x + k < 60 * x + k + 1 by omega) hV
            have ek : val2 C fz (60 * x + k) = endN C (plusF fz x) := by rw [val2_at hk60]; exact end_plus (by omega)
            have := best_more hB' (60 - (k + 1)) (fun p hp hp2 _ => by
              have : val2 C fz p = endN C (plusF fz x) := by
                rw [show p = 60 * x + (p - 60 * x) by omega, val2_at (by omega)]
                exact end_plus (by omega)
              omega)
            rw [show 60 * x + k + 1 + (60 - (k + 1)) = 60 * (x + 1) by omega] at this
            exact this
        · rw [if_neg (fun z => absurd ((hfz k (by omega)).mp z) (by rw [hf]; decide))]
          exact ih (k + 1) F th lo w q a b (by omega) (by omega) (by omega) h0 (best_skip hB (fun z => by
            have z : V2 fz (60 * x + k) = true := z
            rw [V2_at hk60, hf, Bool.and_eq_true, Bool.and_eq_true] at z
            exact absurd z.2.2 (by decide))) hw
theorem secondX {σ : St} {C : CD} {fz : Nat → Bool} (h : LX σ C fz) {x : Nat} (hx : x < 60) (hfx : fz x = false) {st : St} (hst : Fd2 σ C fz (60 * x) st) : ∃ st', fX0_trySecond st (nI x) = some st' ∧ Fd2 σ C fz (60 * (x + 1)) st' := by
  obtain ⟨th, lo, w, q, a, b, rfl, h0, hB, hw⟩ := hst
  have hL : LX (nmX σ th lo (dwN w) a b) C fz := h
  obtain ⟨th', lo', q1, q2, q3⟩ := endX hL h0 (nI x) (-1)
  rw [exF_1 (show x < 80 by omega), ws_nm] at q1
  unfold fX0_trySecond
  rw [q1]
  simp only [obS]
  rw [nI_1]
  have hB' := best_more hB (x + 1) (fun p hp hp2 hV => by
    rw [show p = 60 * x + (p - 60 * x) by omega, V2_at (by omega), Bool.and_eq_true, decide_eq_true_iff] at hV
    omega)
  exact secX h hx hfx (60 - (x + 1)) (x + 1) KF th' lo' w q a b (by omega) (by omega) (by have := KF_ge; omega) q2 (by rw [show 60 * x + (x + 1) = 60 * x + (x + 1) from rfl]; exact hB') hw
theorem twoX {σ : St} {C : CD} {fz : Nat → Bool} (h : LX σ C fz) : ∀ (r k F : Nat) (st : St), k + r = 60 → r < F → Fd2 σ C fz (60 * k) st → ∃ st', fX0_findWorst_37 (fX0_findWorst_37_k 2 (nI (endN C fz))) 2 (nI (endN C fz)) F st (nI k) = some st' ∧ Fd2 σ C fz 3600 st' := by
  have he := end_le (C := C) (fz := fz)
  have hv : ∀ p, val2 C fz p ≤ 80 := fun p => end_le
  have hfz := h.2.2.2.2.2.2.2.2.1
  intro r
  induction r with
  | zero =>
    intro k F st hk hF hst
    cases F with
    | zero => omega
    | succ F =>
      have : k = 60 := by omega
      subst this
      refine ⟨st, ?_, hst⟩
      rw [fX0_findWorst_37, if_neg (show ¬ (2 : Int32) ≤ 0 by decide), if_pos (show (60 : Int32) ≤ nI 60 by decide)]
      rfl
  | succ r ih =>
    intro k F st hk hF hst
    cases F with
    | zero => omega
    | succ F =>
      obtain ⟨th, lo, w, q, a, b, rfl, h0, hB, hw⟩ := id hst
      have hw81 := best_81 hv hB
      rw [fX0_findWorst_37, if_neg (show ¬ (2 : Int32) ≤ 0 by decide), if_neg (show ¬ (60 : Int32) ≤ nI k from nI_ge (b := 60) (by omega) (by decide)), show gi (nmX σ th lo (dwN w) a b) 20 = dwN w from rfl]
      by_cases c80 : w = 81
      · rw [if_pos ((dw_80 (by omega)).mpr c80)]
        refine ⟨_, rfl, th, lo, w, q, a, b, rfl, h0, ?_, hw⟩
        have := best_more hB (3600 - 60 * k) (fun p _ _ _ => by have := hv p; omega)
        rw [show 60 * k + (3600 - 60 * k) = 3600 by omega] at this
        exact this
      · rw [if_neg (fun z => c80 ((dw_80 (by omega)).mp z)), if_pos (inx (show k < 80 by omega) (by decide)), nI_clamp (show k < 2 ^ 31 by omega), show ga (nmX σ th lo (dwN w) a b) 37 k = ga σ 37 k from rfl, nI_1]
        cases hf : fz k
        · rw [if_pos ((hfz k (by omega)).mpr hf), if_neg (show ¬ (2 : Int32) = 1 by decide)]
          obtain ⟨st', s1, s2⟩ := secondX h (show k < 60 by omega) hf hst
          rw [s1]
          simp only [obS]
          by_cases cp : k ≤ endN C fz
          · rw [if_pos (nI_le cp (by omega))]
            exact ih (k + 1) F st' (by omega) (by omega) s2
          · rw [if_neg (nI_ge (by omega) (by omega))]
            obtain ⟨th', lo', w', q', a', b', rfl, h0', hB', hw'⟩ := s2
            refine ⟨_, rfl, th', lo', w', q', a', b', rfl, h0', ?_, hw'⟩
            have := best_more hB' (3600 - 60 * (k + 1)) (fun p hp hp2 hV => by
              have hpm : p = 60 * (p / 60) + p % 60 := by omega
              have hb60 : p % 60 < 60 := by omega
              rw [hpm, V2_at hb60, Bool.and_eq_true, Bool.and_eq_true, decide_eq_true_iff] at hV
              obtain ⟨v1, v2, v3⟩ := hV
              have e1 : val2 C fz p = endN C fz := by
                rw [hpm, val2_at hb60]
                exact end_plus2 (by omega) (by omega)
              have hV0 : V2 fz (60 * k + p / 60) = true := by
                rw [V2_at (show p / 60 < 60 by omega), hf, decide_eq_true (show k < p / 60 by omega)]
                exact v2
              have e2 : val2 C fz (60 * k + p / 60) = endN C fz := by
                rw [val2_at (show p / 60 < 60 by omega)]
                exact end_plus2 (by omega) (by omega)
              have := best_ge hB' (show 60 * k + p / 60 < 60 * (k + 1) by omega) hV0
              omega)
            rw [show 60 * (k + 1) + (3600 - 60 * (k + 1)) = 3600 by omega] at this
            exact this
        · rw [if_neg (fun z => absurd ((hfz k (by omega)).mp z) (by rw [hf]; decide))]
          refine ih (k + 1) F _ (by omega) (by omega) ⟨th, lo, w, q, a, b, rfl, h0, ?_, hw⟩
          have := best_more hB 60 (fun p hp hp2 hV => by
            rw [show p = 60 * k + (p - 60 * k) by omega, V2_at (by omega), hf, Bool.and_eq_true, Bool.and_eq_true] at hV
            exact absurd hV.2.1 (by decide))
          rw [show 60 * k + 60 = 60 * (k + 1) by omega] at this
          exact this
/-- the class finds the worst -/
theorem worstX {σ : St} {C : CD} {fz : Nat → Bool} (h : LX σ C fz) (h0 : ga σ 38 0 = 0) {f : Nat} (hf : f ≤ 2) (hne : gi σ 19 ≠ nI f) : ∃ th lo w a b, fX0_findWorst σ (nI f) = some (nmX (si σ 19 (nI f)) th lo w a b) ∧ th 0 = 0 ∧ WRes C fz f w a b := by
  unfold fX0_findWorst
  rw [if_neg hne]
  have hL : LX (si (si σ 19 (nI f)) 20 (-1)) C fz := h
  have hL1 : LX (si σ 19 (nI f)) C fz := h
  obtain ⟨th, lo, q1, q2, q3⟩ := endX hL h0 (-1) (-1)
  rw [exF_none] at q1
  rw [q1]
  simp only [obS]
  have e0 : wsX (si (si σ 19 (nI f)) 20 (-1)) th lo = nmX (si σ 19 (nI f)) th lo (dwN 0) (gi σ 21) (gi σ 22) := by
    show si (wsX (si σ 19 (nI f)) th lo) 20 (-1) = si (si (si (wsX (si σ 19 (nI f)) th lo) 20 (-1)) 21 (gi σ 21)) 22 (gi σ 22)
    rw [si_self (show gi (si (wsX (si σ 19 (nI f)) th lo) 20 (-1)) 21 = gi σ 21 from rfl), si_self (show gi (si (wsX (si σ 19 (nI f)) th lo) 20 (-1)) 22 = gi σ 22 from rfl)]
  rcases (show f = 0 ∨ f = 1 ∨ f = 2 by omega) with rfl | rfl | rfl
  · rw [if_pos (show nI 0 = (0 : Int32) from rfl)]
    obtain ⟨f0, hf0⟩ : ∃ f0, KF = f0 + 1 := ⟨KF - 1, by have := KF_ge; omega⟩
    rw [hf0, fX0_findWorst_37, if_pos (show nI 0 ≤ (0 : Int32) by decide)]
    refine ⟨th, lo, nI (endN C fz), gi σ 21, gi σ 22, ?_, q2, Or.inl ⟨rfl, rfl⟩⟩
    show some (si (wsX (si (si σ 19 (nI 0)) 20 (-1)) th lo) 20 (nI (endN C fz))) = some (si (si (si (wsX (si σ 19 (nI 0)) th lo) 20 (nI (endN C fz))) 21 (gi σ 21)) 22 (gi σ 22))
    rw [si_self (show gi (si (wsX (si σ 19 (nI 0)) th lo) 20 (nI (endN C fz))) 21 = gi σ 21 from rfl), si_self (show gi (si (wsX (si σ 19 (nI 0)) th lo) 20 (nI (endN C fz))) 22 = gi σ 22 from rfl)]
    congr 1
    exact si_si (wsX (si σ 19 (nI 0)) th lo) 20 (-1) (nI (endN C fz))
  · rw [if_neg (show ¬ nI 1 = (0 : Int32) by decide), e0]
    obtain ⟨st, s1, th', lo', w, q, a, b, rfl, s3, s4, s5⟩ := oneX hL1 60 0 KF th lo 0 0 (gi σ 21) (gi σ 22) (by decide) (by have := KF_ge; omega) q2 best_0 (fun q => absurd rfl q)
    exact ⟨th', lo', dwN w, a, b, s1, s3, Or.inr (Or.inl ⟨rfl, w, q, s4, rfl, s5⟩)⟩
  · rw [if_neg (show ¬ nI 2 = (0 : Int32) by decide), e0]
    obtain ⟨st, s1, th', lo', w, q, a, b, rfl, s3, s4, s5⟩ := twoX hL1 60 0 KF (nmX (si σ 19 (nI 2)) th lo (dwN 0) (gi σ 21) (gi σ 22)) (by decide) (by have := KF_ge; omega) ⟨th, lo, 0, 0, gi σ 21, gi σ 22, rfl, q2, best_0, fun q => absurd rfl q⟩
    exact ⟨th', lo', dwN w, a, b, s1, s3, Or.inr (Or.inr ⟨rfl, w, q, s4, rfl, s5⟩)⟩
