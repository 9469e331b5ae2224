/-! the worst weather, as the reference finds it -/
def nmM (τ : St) (fr lo hl : Nat → Int32) (a b : Int32) : St := si (si (saf (wsM τ lo hl) 21 fr) 18 a) 19 b
theorem ws_nmM (τ : St) (fr lo hl lo' hl' : Nat → Int32) (a b : Int32) : wsM (nmM τ fr lo hl a b) lo' hl' = nmM τ fr lo' hl' a b := by
  show si (si (saf (saf (saf (saf (saf τ 23 lo) 24 hl) 21 fr) 23 lo') 24 hl') 18 a) 19 b = si (si (saf (saf (saf τ 23 lo') 24 hl') 21 fr) 18 a) 19 b
  rw [saf_comm (saf (saf τ 23 lo) 24 hl) (show 21 ≠ 23 by decide), saf_comm (saf τ 23 lo) (show 24 ≠ 23 by decide), saf_saf, saf_comm (saf (saf τ 23 lo') 24 hl) (show 21 ≠ 24 by decide), saf_saf]
theorem sa_nmM (τ : St) (fr lo hl : Nat → Int32) (a b : Int32) (i : Nat) (v : Int32) : sa (nmM τ fr lo hl a b) 21 i v = nmM τ (upd fr i v) lo hl a b := by
  show si (si (saf (saf (wsM τ lo hl) 21 fr) 21 (upd fr i v)) 18 a) 19 b = _
  rw [saf_saf]
  rfl
theorem si_nmM (τ : St) (fr lo hl : Nat → Int32) (a b a' b' : Int32) : si (si (nmM τ fr lo hl a b) 18 a') 19 b' = nmM τ fr lo hl a' b' := by
  unfold nmM
  simp only [si]
  refine Prod.ext (funext fun j => ?_) rfl
  show (if j = 19 then b' else if j = 18 then a' else if j = 19 then b else if j = 18 then a else (saf (wsM τ lo hl) 21 fr).1 j) = if j = 19 then b' else if j = 18 then a' else (saf (wsM τ lo hl) 21 fr).1 j
  by_cases h1 : j = 19 <;> by_cases h2 : j = 18 <;> simp [h1, h2]
theorem nmM_self (τ : St) : nmM τ (ga τ 21) (ga τ 23) (ga τ 24) (gi τ 18) (gi τ 19) = τ := by
  unfold nmM wsM
  rw [show saf τ 23 (ga τ 23) = τ from saf_self τ 23, show saf τ 24 (ga τ 24) = τ from saf_self τ 24, show saf τ 21 (ga τ 21) = τ from saf_self τ 21, si_self (show gi τ 18 = gi τ 18 from rfl), si_self (show gi τ 19 = gi τ 19 from rfl)]
theorem LM_nm {τ : St} {C : CD} {fz fz' : Nat → Bool} (h : LM τ C fz) {fr lo hl : Nat → Int32} {a b : Int32} (hf : ∀ e, e < 80 → (fr e = 0 ↔ fz' e = false)) : LM (nmM τ fr lo hl a b) C fz' := by
  obtain ⟨h1, h2, h3, h4, h5, h6, h7, h8, _, h10⟩ := h
  exact ⟨h1, h2, h3, h4, h5, h6, h7, h8, hf, h10⟩
theorem fr_set {fr : Nat → Int32} {fz : Nat → Bool} {a : Nat} (h : ∀ e, e < 80 → (fr e = 0 ↔ fz e = false)) : ∀ e, e < 80 → (upd fr a (i01B true) e = 0 ↔ plusF fz a e = false) := fun e he => by
  unfold plusF
  by_cases c : e = a
  · subst c
    rw [pk_us, decide_eq_true rfl, Bool.or_true]
    exact ⟨fun q => absurd q (by decide), fun q => absurd q (by decide)⟩
  · rw [pk_un c, decide_eq_false c, Bool.or_false]
    exact h e he
theorem fr_keep {fr : Nat → Int32} {fz : Nat → Bool} {a : Nat} (h : ∀ e, e < 80 → (fr e = 0 ↔ fz e = false)) : ∀ e, e < 80 → (upd fr a (i01B (decide (fr a ≠ 0))) e = 0 ↔ fz e = false) := fun e he => by
  by_cases c : e = a
  · subst c
    rw [pk_us, i01B_0, ← h e he, decide_eq_false_iff_not]
    exact ⟨fun q => Classical.byContradiction q, fun q w => w q⟩
  · rw [pk_un c]; exact h e he
/-- how a try ends -/
def Tk (C : CD) (fz : Nat → Bool) (w w' : Nat) (x y x' y' a b : Int32) : Prop := (endN C fz + 1 ≤ w ∧ w' = w ∧ x' = x ∧ y' = y) ∨ (w < endN C fz + 1 ∧ w' = endN C fz + 1 ∧ x' = a ∧ y' = b)
theorem j145 {τ : St} {C : CD} {fz fz' : Nat → Bool} (h : LM τ C fz) {fr lo hl : Nat → Int32} {a b w : Nat} (ha : a < 80) (hb : b < 80) (hw : w ≤ 81) {y : Bool} (hfr : ∀ e, e < 80 → (upd fr b (i01B y) e = 0 ↔ fz' e = false)) (ba : b01 (ga τ 21 a)) (bb : b01 (ga τ 21 b)) (hoff : ∀ e, e ≠ a → e ≠ b → fr e = ga τ 21 e) (k13 k34 : St → Int32 → Int32 → Option (Int32 × St)) (v1 v5 p q : Int32) : ∃ lo' hl' w' p' q', fX10_findWorst_J145 k13 k34 (nmM τ fr lo hl p q) v1 (dwN w) (nI a) (nI b) v5 (ga τ 21 a) (ga τ 21 b) (i01B y) (nI b) = k34 (nmM τ (ga τ 21) lo' hl' p' q') (dwN w') (nI (b + 1)) ∧ Tk C fz' w w' p q p' q' (nI a) (nI b) := by
  have hL : LM (nmM τ (upd fr b (i01B y)) lo hl p q) C fz' := LM_nm h hfr
  obtain ⟨lo', hl', q1, q2⟩ := layM hL
  rw [ws_nmM] at q1
  have he := end_le (C := C) (fz := fz')
  have hback : upd (upd (upd fr b (i01B y)) b (ga τ 21 b)) a (ga τ 21 a) = ga τ 21 := by
    funext e
    by_cases c1 : e = a
    · subst c1; exact pk_us
    · rw [pk_un c1]
      by_cases c2 : e = b
      · subst c2; exact pk_us
      · rw [pk_un c2, pk_un c2]; exact hoff e c1 c2
  unfold fX10_findWorst_J145
  rw [if_pos (inx hb (by decide)), nI_clamp (show b < 2 ^ 31 by omega), nI_clamp (show a < 2 ^ 31 by omega), nar01 (i01B_b y), nar01 ba, nar01 bb, sa_nmM, q1]
  simp only [obS]
  rw [if_pos (inx' hb (by decide)), if_pos (inx' ha (by decide)), sa_nmM, sa_nmM, hback, nI_1]
  by_cases c : endN C fz' + 1 ≤ w
  · rw [if_pos ((dw_le (by omega) (by omega)).mpr c)]
    exact ⟨lo', hl', w, p, q, rfl, Or.inl ⟨c, rfl, rfl, rfl⟩⟩
  · rw [if_neg (fun z => c ((dw_le (by omega) (by omega)).mp z)), si_nmM]
    exact ⟨lo', hl', endN C fz' + 1, nI a, nI b, rfl, Or.inr ⟨by omega, rfl, rfl, rfl⟩⟩
def fzP (f : Nat) (fz : Nat → Bool) (a b : Nat) : Nat → Bool := if f = 0 then fz else if f = 1 then plusF fz a else plusF (plusF fz a) b
theorem j118 {τ : St} {C : CD} {fz fz1 : Nat → Bool} (h : LM τ C fz) {lo hl : Nat → Int32} {a b w f : Nat} (hf : f ≤ 2) (ha : a < 80) (hb : b < 80) (hw : w ≤ 81) {x : Bool} (hfr : ∀ e, e < 80 → (upd (ga τ 21) a (i01B x) e = 0 ↔ fz1 e = false)) (ba : b01 (ga τ 21 a)) (bb : b01 (ga τ 21 b)) (k13 k34 : St → Int32 → Int32 → Option (Int32 × St)) (v5 p q : Int32) : ∃ lo' hl' w' p' q', fX10_findWorst_J118 k13 k34 (nmM τ (ga τ 21) lo hl p q) (nI f) (dwN w) (nI a) (nI b) v5 (ga τ 21 a) (ga τ 21 b) (i01B x) (nI a) = k34 (nmM τ (ga τ 21) lo' hl' p' q') (dwN w') (nI (b + 1)) ∧ Tk C (if f = 2 then plusF fz1 b else fz1) w w' p q p' q' (nI a) (nI b) := by
  have hoff : ∀ e, e ≠ a → e ≠ b → upd (ga τ 21) a (i01B x) e = ga τ 21 e := fun e h1 _ => pk_un h1
  unfold fX10_findWorst_J118
  rw [if_pos (inx ha (by decide)), nI_clamp (show a < 2 ^ 31 by omega), nar01 (i01B_b x), sa_nmM]
  by_cases c2 : f = 2
  · subst c2
    rw [if_pos (show (1 : Int32) < nI 2 by decide), if_pos rfl]
    exact j145 h ha hb hw (y := true) (fr_set hfr) ba bb hoff k13 k34 (nI 2) v5 p q
  · rw [if_neg (show ¬ (1 : Int32) < nI f from nI_nlt (b := f) (a := 1) (by omega) (by decide)), if_neg c2, if_pos (inx hb (by decide)), nI_clamp (show b < 2 ^ 31 by omega), show ga (nmM τ (upd (ga τ 21) a (i01B x)) lo hl p q) 21 b = upd (ga τ 21) a (i01B x) b from rfl]
    have key := j145 h (lo := lo) (hl := hl) ha hb hw (y := decide (upd (ga τ 21) a (i01B x) b ≠ 0)) (fr_keep hfr) ba bb hoff k13 k34 (nI f) v5 p q
    by_cases c : upd (ga τ 21) a (i01B x) b = 0
    · rw [if_pos c]
      rw [decide_eq_false (fun z => z c)] at key
      exact key
    · rw [if_neg c]
      rw [decide_eq_true c] at key
      exact key
theorem pairW {τ : St} {C : CD} {fz : Nat → Bool} (h : LM τ C fz) (hb01 : ∀ e, e < 80 → b01 (ga τ 21 e)) {lo hl : Nat → Int32} {a b w f : Nat} (hf : f ≤ 2) (ha : a < 80) (hb : b < 80) (hw : w ≤ 81) (k13 k34 : St → Int32 → Int32 → Option (Int32 × St)) (p q : Int32) : ∃ lo' hl' w' p' q', fX10_findWorst_J70 k13 k34 (nmM τ (ga τ 21) lo hl p q) (nI f) (dwN w) (nI a) (nI b) = k34 (nmM τ (ga τ 21) lo' hl' p' q') (dwN w') (nI (b + 1)) ∧ Tk C (fzP f fz a b) w w' p q p' q' (nI a) (nI b) := by
  have hfz := h.2.2.2.2.2.2.2.2.1
  unfold fX10_findWorst_J70 fzP
  rw [if_pos (inx ha (by decide)), if_pos (inx hb (by decide)), nI_clamp (show a < 2 ^ 31 by omega), nI_clamp (show b < 2 ^ 31 by omega), show ga (nmM τ (ga τ 21) lo hl p q) 21 = ga τ 21 from rfl]
  by_cases c0 : f = 0
  · subst c0
    rw [if_neg (show ¬ (0 : Int32) < nI 0 by decide), if_pos rfl]
    have key := j118 h (lo := lo) (hl := hl) (f := 0) (by omega) ha hb hw (x := decide (ga τ 21 a ≠ 0)) (fr_keep hfz) (hb01 a ha) (hb01 b hb) k13 k34 1 p q
    rw [if_neg (show ¬ 0 = 2 by decide)] at key
    by_cases c : ga τ 21 a = 0
    · rw [if_pos c]
      rw [decide_eq_false (fun z => z c)] at key
      exact key
    · rw [if_neg c]
      rw [decide_eq_true c] at key
      exact key
  · rw [if_pos (show (0 : Int32) < nI f from nI_lt (a := 0) (by omega) (by omega)), if_neg c0]
    have key := j118 h (lo := lo) (hl := hl) (f := f) hf ha hb hw (x := true) (fr_set hfz) (hb01 a ha) (hb01 b hb) k13 k34 1 p q
    by_cases c1 : f = 1
    · subst c1
      rw [if_neg (show ¬ 1 = 2 by decide)] at key
      rw [if_pos rfl]
      exact key
    · rw [if_pos (show f = 2 by omega)] at key
      rw [if_neg c1]
      exact key
/-- one day -/
theorem oneM {τ : St} {C : CD} {fz : Nat → Bool} (h : LM τ C fz) (hb01 : ∀ e, e < 80 → b01 (ga τ 21 e)) {lo hl : Nat → Int32} {a w q : Nat} (ha : a < 60) (k13 : St → Int32 → Int32 → Option (Int32 × St)) (x y : Int32) (hB : BestOK (V1 fz) (val1 C fz) a w q) (hx : w ≠ 0 → x = nI q) : ∃ lo' hl' w' q' x' y', fX10_findWorst_J32 k13 (nmM τ (ga τ 21) lo hl x y) (nI 1) (dwN w) (nI a) 59 = k13 (nmM τ (ga τ 21) lo' hl' x' y') (dwN w') (nI (a + 1)) ∧ BestOK (V1 fz) (val1 C fz) (a + 1) w' q' ∧ (w' ≠ 0 → x' = nI q') := by
  have hfz := h.2.2.2.2.2.2.2.2.1
  have hv : ∀ p, val1 C fz p ≤ 80 := fun p => end_le
  have hw81 := best_81 hv hB
  obtain ⟨f0, hf0⟩ : ∃ f0, KF = f0 + 1 + 1 := ⟨KF - 2, by have := KF_ge; omega⟩
  have out : ∀ (st : St) (w : Int32), fX10_findWorst_34 k13 (fX10_findWorst_34_k k13 (nI 1) (nI a)) (nI 1) (nI a) (f0 + 1) st w (nI (59 + 1)) = k13 st w (nI (a + 1)) := fun st w => by
    rw [fX10_findWorst_34, if_pos (show (60 : Int32) ≤ nI (59 + 1) by decide)]
    unfold fX10_findWorst_34_k
    rw [nI_1]
  unfold fX10_findWorst_J32
  rw [hf0, show (59 : Int32) = nI 59 from rfl, fX10_findWorst_34, if_neg (show ¬ (60 : Int32) ≤ nI 59 by decide), if_neg (show ¬ nI 1 < (1 : Int32) by decide), if_pos (inx (show a < 80 by omega) (by decide)), nI_clamp (show a < 2 ^ 31 by omega), show ga (nmM τ (ga τ 21) lo hl x y) 21 a = ga τ 21 a from rfl, if_pos (show nI 1 < (2 : Int32) by decide)]
  cases hf : fz a
  · rw [if_pos ((hfz a (by omega)).mpr hf)]
    obtain ⟨lo', hl', w', p', q', r1, r2⟩ := pairW h hb01 (lo := lo) (hl := hl) (f := 1) (by decide) (show a < 80 by omega) (show 59 < 80 by decide) hw81 k13 (fun σ34' v2_34' v4_34' => fX10_findWorst_34 k13 (fX10_findWorst_34_k k13 (nI 1) (nI a)) (nI 1) (nI a) (f0 + 1) σ34' v2_34' v4_34') x y
    have hV : V1 fz a = true := by unfold V1; rw [hf]; rfl
    have r2 : Tk C (plusF fz a) w w' x y p' q' (nI a) (nI 59) := r2
    rw [r1]
    show ∃ lo' hl' w'' q'' x' y', fX10_findWorst_34 k13 (fX10_findWorst_34_k k13 (nI 1) (nI a)) (nI 1) (nI a) (f0 + 1) _ _ (nI (59 + 1)) = _ ∧ _
    rw [out]
    rcases r2 with ⟨x1, x2, x3, x4⟩ | ⟨x1, x2, x3, x4⟩
    · subst x2 x3
      exact ⟨lo', hl', w', q, p', q', rfl, best_skip hB (fun _ => x1), hx⟩
    · subst x2 x3
      exact ⟨lo', hl', _, a, _, q', rfl, best_take hB hV x1, fun _ => rfl⟩
  · rw [if_neg (fun z => absurd ((hfz a (by omega)).mp z) (by rw [hf]; decide)), nI_1, out]
    exact ⟨lo, hl, w, q, x, y, rfl, best_skip hB (fun z => by unfold V1 at z; rw [hf] at z; exact absurd z (by decide)), hx⟩
theorem twoM {τ : St} {C : CD} {fz : Nat → Bool} (h : LM τ C fz) (hb01 : ∀ e, e < 80 → b01 (ga τ 21 e)) {lo hl : Nat → Int32} {a w q : Nat} (ha : a < 60) (k13 : St → Int32 → Int32 → Option (Int32 × St)) (x y : Int32) (hB : BestOK (V2 fz) (val2 C fz) (60 * a) w q) (hx : w ≠ 0 → x = nI (q / 60) ∧ y = nI (q % 60)) : ∃ lo' hl' w' q' x' y', fX10_findWorst_J32 k13 (nmM τ (ga τ 21) lo hl x y) (nI 2) (dwN w) (nI a) (nI (a + 1)) = k13 (nmM τ (ga τ 21) lo' hl' x' y') (dwN w') (nI (a + 1)) ∧ BestOK (V2 fz) (val2 C fz) (60 * (a + 1)) w' q' ∧ (w' ≠ 0 → x' = nI (q' / 60) ∧ y' = nI (q' % 60)) := by
  have hfz := h.2.2.2.2.2.2.2.2.1
  have hv : ∀ p, val2 C fz p ≤ 80 := fun p => end_le
  have hB0 := best_more hB (a + 1) (fun p hp hp2 hV => by
    rw [show p = 60 * a + (p - 60 * a) by omega, V2_at (by omega), Bool.and_eq_true, decide_eq_true_iff] at hV
    omega)
  unfold fX10_findWorst_J32
  obtain ⟨s', ⟨_, lo', hl', w', q', x', y', a1, a2, a3, a4⟩, a5⟩ := for_loop (fun n (s : St × Int32) i => fX10_findWorst_34 k13 (fX10_findWorst_34_k k13 (nI 2) (nI a)) (nI 2) (nI a) n s.1 s.2 i) (fun s i => fX10_findWorst_34_k k13 (nI 2) (nI a) s.1 s.2 i) (fun k (s : St × Int32) => a < k ∧ ∃ lo hl w q x y, s.1 = nmM τ (ga τ 21) lo hl x y ∧ s.2 = dwN w ∧ BestOK (V2 fz) (val2 C fz) (60 * a + k) w q ∧ (w ≠ 0 → x = nI (q / 60) ∧ y = nI (q % 60))) 60
    (fun n s _ => by
      show fX10_findWorst_34 k13 (fX10_findWorst_34_k k13 (nI 2) (nI a)) (nI 2) (nI a) (n + 1) s.1 s.2 (nI 60) = fX10_findWorst_34_k k13 (nI 2) (nI a) s.1 s.2 (nI 60)
      rw [fX10_findWorst_34, if_pos (show (60 : Int32) ≤ nI 60 by decide)])
    (fun n k s hk => by
      obtain ⟨st, v⟩ := s
      rintro ⟨hak, lo, hl, w, q, x, y, q1, q2, hI, hx⟩
      have q1 : st = nmM τ (ga τ 21) lo hl x y := q1
      have q2 : v = dwN w := q2
      subst q1 q2
      have hw81 := best_81 hv hI
      show ∃ s' : St × Int32, _ ∧ fX10_findWorst_34 k13 (fX10_findWorst_34_k k13 (nI 2) (nI a)) (nI 2) (nI a) (n + 1) (nmM τ (ga τ 21) lo hl x y) (dwN w) (nI k) = fX10_findWorst_34 k13 (fX10_findWorst_34_k k13 (nI 2) (nI a)) (nI 2) (nI a) n s'.1 s'.2 (nI (k + 1))
      rw [fX10_findWorst_34, if_neg (show ¬ (60 : Int32) ≤ nI k from nI_ge (b := 60) hk (by decide)), if_neg (show ¬ nI 2 < (1 : Int32) by decide), if_neg (show ¬ nI 2 < (2 : Int32) by decide), if_pos (inx (show a < 80 by omega) (by decide)), if_pos (inx (show k < 80 by omega) (by decide)), nI_clamp (show a < 2 ^ 31 by omega), nI_clamp (show k < 2 ^ 31 by omega), show ga (nmM τ (ga τ 21) lo hl x y) 21 = ga τ 21 from rfl, nI_1]
      have skip : V2 fz (60 * a + k) = false → ∃ s' : St × Int32, (a < k + 1 ∧ ∃ lo hl w q x y, s'.1 = nmM τ (ga τ 21) lo hl x y ∧ s'.2 = dwN w ∧ BestOK (V2 fz) (val2 C fz) (60 * a + (k + 1)) w q ∧ (w ≠ 0 → x = nI (q / 60) ∧ y = nI (q % 60))) ∧ fX10_findWorst_34 k13 (fX10_findWorst_34_k k13 (nI 2) (nI a)) (nI 2) (nI a) n (nmM τ (ga τ 21) lo hl x y) (dwN w) (nI (k + 1)) = fX10_findWorst_34 k13 (fX10_findWorst_34_k k13 (nI 2) (nI a)) (nI 2) (nI a) n s'.1 s'.2 (nI (k + 1)) := fun hV =>
        ⟨(_, _), ⟨by omega, lo, hl, w, q, x, y, rfl, rfl, best_skip hI (fun z => by
          have z : V2 fz (60 * a + k) = true := z
          rw [hV] at z; exact absurd z (by decide)), hx⟩, rfl⟩
      cases hf : fz a
      · rw [if_pos ((hfz a (by omega)).mpr hf)]
        cases hg : fz k
        · rw [if_pos ((hfz k (by omega)).mpr hg)]
          obtain ⟨lo', hl', w', p', q', r1, r2⟩ := pairW h hb01 (lo := lo) (hl := hl) (f := 2) (by decide) (show a < 80 by omega) (show k < 80 by omega) hw81 k13 (fun σ34' v2_34' v4_34' => fX10_findWorst_34 k13 (fX10_findWorst_34_k k13 (nI 2) (nI a)) (nI 2) (nI a) n σ34' v2_34' v4_34') x y
          have hV : V2 fz (60 * a + k) = true := by rw [V2_at hk, hf, hg, decide_eq_true hak]; rfl
          have r2 : Tk C (plusF (plusF fz a) k) w w' x y p' q' (nI a) (nI k) := r2
          unfold Tk at r2
          rw [← val2_at hk] at r2
          rw [r1]
          rcases r2 with ⟨x1, x2, x3, x4⟩ | ⟨x1, x2, x3, x4⟩
          · subst x2 x3 x4
            exact ⟨(_, _), ⟨by omega, lo', hl', w', q, p', q', rfl, rfl, best_skip hI (fun _ => x1), hx⟩, rfl⟩
          · subst x2 x3 x4
            exact ⟨(_, _), ⟨by omega, lo', hl', _, 60 * a + k, _, _, rfl, rfl, best_take hI hV x1, fun _ => by rw [(div60 hk).1, (div60 hk).2]; exact ⟨rfl, rfl⟩⟩, rfl⟩
        · rw [if_neg (fun z => absurd ((hfz k (by omega)).mp z) (by rw [hg]; decide))]
          exact skip (by rw [V2_at hk, hg, Bool.not_true, Bool.and_false, Bool.and_false])
      · rw [if_neg (fun z => absurd ((hfz a (by omega)).mp z) (by rw [hf]; decide))]
        exact skip (by rw [V2_at hk, hf, Bool.not_true, Bool.false_and, Bool.and_false]))
    (60 - (a + 1)) (a + 1) KF (nmM τ (ga τ 21) lo hl x y, dwN w) (by omega) (by have := KF_ge; omega) ⟨by omega, lo, hl, w, q, x, y, rfl, rfl, hB0, hx⟩
  refine ⟨lo', hl', w', q', x', y', ?_, by rw [show 60 * (a + 1) = 60 * a + 60 by omega]; exact a3, a4⟩
  refine Eq.trans a5 ?_
  show fX10_findWorst_34_k k13 (nI 2) (nI a) s'.1 s'.2 (nI 60) = _
  unfold fX10_findWorst_34_k
  rw [a1, a2, nI_1]
/-- the reference finds the worst -/
theorem worstM {τ : St} {C : CD} {fz : Nat → Bool} (h : LM τ C fz) (hb01 : ∀ e, e < 80 → b01 (ga τ 21 e)) {f : Nat} (hf : f ≤ 2) : ∃ lo hl w x y, fX10_findWorst τ (nI f) = some (w, nmM τ (ga τ 21) lo hl x y) ∧ WRes C fz f w x y := by
  have key : ∃ lo hl w x y, fX10_findWorst (nmM τ (ga τ 21) (ga τ 23) (ga τ 24) (gi τ 18) (gi τ 19)) (nI f) = some (w, nmM τ (ga τ 21) lo hl x y) ∧ WRes C fz f w x y := by
    unfold fX10_findWorst fX10_findWorst_J12
    rcases (show f = 0 ∨ f = 1 ∨ f = 2 by omega) with rfl | rfl | rfl
    · obtain ⟨f0, hf0⟩ : ∃ f0, KF = f0 + 1 + 1 := ⟨KF - 2, by have := KF_ge; omega⟩
      rw [if_pos (show nI 0 ≤ (0 : Int32) by decide), hf0, show (59 : Int32) = nI 59 from rfl, fX10_findWorst_13, if_neg (show ¬ (60 : Int32) ≤ nI 59 by decide), if_pos (show nI 0 ≤ (1 : Int32) by decide)]
      unfold fX10_findWorst_J32
      rw [hf0, show (59 : Int32) = nI 59 from rfl, fX10_findWorst_34, if_neg (show ¬ (60 : Int32) ≤ nI 59 by decide), if_pos (show nI 0 < (1 : Int32) by decide), if_pos (show nI 0 < (2 : Int32) by decide)]
      obtain ⟨lo', hl', w', p', q', r1, r2⟩ := pairW h hb01 (lo := ga τ 23) (hl := ga τ 24) (f := 0) (w := 0) (by decide) (show 59 < 80 by decide) (show 59 < 80 by decide) (by decide) (fun σ13' v2_13' v3_13' => fX10_findWorst_13 (fX10_findWorst_13_k (nI 0)) (nI 0) (f0 + 1) σ13' v2_13' v3_13') (fun σ34' v2_34' v4_34' => fX10_findWorst_34 (fun σ13' v2_13' v3_13' => fX10_findWorst_13 (fX10_findWorst_13_k (nI 0)) (nI 0) (f0 + 1) σ13' v2_13' v3_13') (fX10_findWorst_34_k (fun σ13' v2_13' v3_13' => fX10_findWorst_13 (fX10_findWorst_13_k (nI 0)) (nI 0) (f0 + 1) σ13' v2_13' v3_13') (nI 0) (nI 59)) (nI 0) (nI 59) (f0 + 1) σ34' v2_34' v4_34') (gi τ 18) (gi τ 19)
      rw [show (-1 : Int32) = dwN 0 from rfl, r1]
      have r2 : Tk C fz 0 w' (gi τ 18) (gi τ 19) p' q' (nI 59) (nI 59) := r2
      rcases r2 with ⟨x1, _⟩ | ⟨x1, x2, x3, x4⟩
      · omega
      · subst x2
        refine ⟨lo', hl', dwN (endN C fz + 1), p', q', ?_, Or.inl ⟨rfl, rfl⟩⟩
        show fX10_findWorst_34 _ _ (nI 0) (nI 59) (f0 + 1) _ _ (nI (59 + 1)) = _
        rw [fX10_findWorst_34, if_pos (show (60 : Int32) ≤ nI (59 + 1) by decide)]
        unfold fX10_findWorst_34_k
        show fX10_findWorst_13 (fX10_findWorst_13_k (nI 0)) (nI 0) (f0 + 1) _ _ (nI 59 + 1) = _
        rw [fX10_findWorst_13, if_pos (show (60 : Int32) ≤ nI 59 + 1 by decide)]
        rfl
    · rw [if_neg (show ¬ nI 1 ≤ (0 : Int32) by decide)]
      obtain ⟨s', ⟨lo', hl', w', q', x', y', a1, a2, a3, a4⟩, a5⟩ := for_loop0 (fun n (s : St × Int32) i => fX10_findWorst_13 (fX10_findWorst_13_k (nI 1)) (nI 1) n s.1 s.2 i) (fun s i => fX10_findWorst_13_k (nI 1) s.1 s.2 i) (fun k (s : St × Int32) => ∃ lo hl w q x y, s.1 = nmM τ (ga τ 21) lo hl x y ∧ s.2 = dwN w ∧ BestOK (V1 fz) (val1 C fz) k w q ∧ (w ≠ 0 → x = nI q)) 60 (by decide)
        (fun n s _ => by
          show fX10_findWorst_13 (fX10_findWorst_13_k (nI 1)) (nI 1) (n + 1) s.1 s.2 (nI 60) = fX10_findWorst_13_k (nI 1) s.1 s.2 (nI 60)
          rw [fX10_findWorst_13, if_pos (show (60 : Int32) ≤ nI 60 by decide)])
        (fun n k s hk => by
          obtain ⟨st, v⟩ := s
          rintro ⟨lo, hl, w, q, x, y, q1, q2, hI, hx⟩
          have q1 : st = nmM τ (ga τ 21) lo hl x y := q1
          have q2 : v = dwN w := q2
          subst q1 q2
          obtain ⟨lo', hl', w', q', x', y', r1, r2, r3⟩ := oneM h hb01 (lo := lo) (hl := hl) hk (fun σ13' v2_13' v3_13' => fX10_findWorst_13 (fX10_findWorst_13_k (nI 1)) (nI 1) n σ13' v2_13' v3_13') x y hI hx
          refine ⟨(_, _), ⟨lo', hl', w', q', x', y', rfl, rfl, r2, r3⟩, ?_⟩
          show fX10_findWorst_13 (fX10_findWorst_13_k (nI 1)) (nI 1) (n + 1) (nmM τ (ga τ 21) lo hl x y) (dwN w) (nI k) = _
          rw [fX10_findWorst_13, if_neg (show ¬ (60 : Int32) ≤ nI k from nI_ge (b := 60) hk (by decide)), if_pos (show nI 1 ≤ (1 : Int32) by decide)]
          exact r1)
        (nmM τ (ga τ 21) (ga τ 23) (ga τ 24) (gi τ 18) (gi τ 19), (-1 : Int32)) ⟨_, _, 0, 0, _, _, rfl, rfl, best_0, fun q => absurd rfl q⟩
      refine ⟨lo', hl', dwN w', x', y', ?_, Or.inr (Or.inl ⟨rfl, w', q', a3, rfl, a4⟩)⟩
      refine Eq.trans a5 ?_
      show fX10_findWorst_13_k (nI 1) s'.1 s'.2 (nI 60) = _
      unfold fX10_findWorst_13_k
      rw [a1, a2]
    · rw [if_neg (show ¬ nI 2 ≤ (0 : Int32) by decide)]
      obtain ⟨s', ⟨lo', hl', w', q', x', y', a1, a2, a3, a4⟩, a5⟩ := for_loop0 (fun n (s : St × Int32) i => fX10_findWorst_13 (fX10_findWorst_13_k (nI 2)) (nI 2) n s.1 s.2 i) (fun s i => fX10_findWorst_13_k (nI 2) s.1 s.2 i) (fun k (s : St × Int32) => ∃ lo hl w q x y, s.1 = nmM τ (ga τ 21) lo hl x y ∧ s.2 = dwN w ∧ BestOK (V2 fz) (val2 C fz) (60 * k) w q ∧ (w ≠ 0 → x = nI (q / 60) ∧ y = nI (q % 60))) 60 (by decide)
        (fun n s _ => by
          show fX10_findWorst_13 (fX10_findWorst_13_k (nI 2)) (nI 2) (n + 1) s.1 s.2 (nI 60) = fX10_findWorst_13_k (nI 2) s.1 s.2 (nI 60)
          rw [fX10_findWorst_13, if_pos (show (60 : Int32) ≤ nI 60 by decide)])
        (fun n k s hk => by
          obtain ⟨st, v⟩ := s
          rintro ⟨lo, hl, w, q, x, y, q1, q2, hI, hx⟩
          have q1 : st = nmM τ (ga τ 21) lo hl x y := q1
          have q2 : v = dwN w := q2
          subst q1 q2
          obtain ⟨lo', hl', w', q', x', y', r1, r2, r3⟩ := twoM h hb01 (lo := lo) (hl := hl) hk (fun σ13' v2_13' v3_13' => fX10_findWorst_13 (fX10_findWorst_13_k (nI 2)) (nI 2) n σ13' v2_13' v3_13') x y hI hx
          refine ⟨(_, _), ⟨lo', hl', w', q', x', y', rfl, rfl, r2, r3⟩, ?_⟩
          show fX10_findWorst_13 (fX10_findWorst_13_k (nI 2)) (nI 2) (n + 1) (nmM τ (ga τ 21) lo hl x y) (dwN w) (nI k) = _
          rw [fX10_findWorst_13, if_neg (show ¬ (60 : Int32) ≤ nI k from nI_ge (b := 60) hk (by decide)), if_neg (show ¬ nI 2 ≤ (1 : Int32) by decide), nI_1]
          exact r1)
        (nmM τ (ga τ 21) (ga τ 23) (ga τ 24) (gi τ 18) (gi τ 19), (-1 : Int32)) ⟨_, _, 0, 0, _, _, rfl, rfl, best_0, fun q => absurd rfl q⟩
      refine ⟨lo', hl', dwN w', x', y', ?_, Or.inr (Or.inr ⟨rfl, w', q', a3, rfl, a4⟩)⟩
      refine Eq.trans a5 ?_
      show fX10_findWorst_13_k (nI 2) s'.1 s'.2 (nI 60) = _
      unfold fX10_findWorst_13_k
      rw [a1, a2]
  rw [nmM_self] at key
  exact key
theorem wres_uni {C : CD} {fz : Nat → Bool} {f : Nat} {w a b w' a' b' : Int32} (h : WRes C fz f w a b) (h' : WRes C fz f w' a' b') : w = w' ∧ (w ≠ -1 → (1 ≤ f → a = a') ∧ (2 ≤ f → b = b')) ∧ (w = -1 ∨ 0 ≤ w) := by
  have hd : ∀ x, x ≤ 81 → (dwN x = -1 ∨ 0 ≤ dwN x) ∧ (dwN x ≠ -1 → x ≠ 0) := fun x hx => by
    cases x with
    | zero => exact ⟨Or.inl rfl, fun q => absurd rfl q⟩
    | succ x => exact ⟨Or.inr (nI_pos' (by omega)), fun _ => by omega⟩
  have he := end_le (C := C) (fz := fz)
  rcases h with ⟨f0, h1⟩ | ⟨f1, x, q, h1, h2, h3⟩ | ⟨f2, x, q, h1, h2, h3⟩
  · rcases h' with ⟨g0, g1⟩ | ⟨g1, _⟩ | ⟨g2, _⟩
    · refine ⟨by rw [h1, g1], fun _ => ⟨fun z => by omega, fun z => by omega⟩, Or.inr (by rw [h1]; exact nI_pos' (by omega))⟩
    · omega
    · omega
  · rcases h' with ⟨g0, _⟩ | ⟨_, x', q', g1, g2, g3⟩ | ⟨g2, _⟩
    · omega
    · obtain ⟨u1, u2⟩ := best_uni h1 g1
      have h81 := best_81 (fun p => end_le) h1
      subst u1
      rw [h2, g2]
      refine ⟨rfl, fun z => ⟨fun _ => ?_, fun z => by omega⟩, (hd x h81).1⟩
      have hx := (hd x h81).2 z
      rw [h3 hx, g3 hx, u2 hx]
    · omega
  · rcases h' with ⟨g0, _⟩ | ⟨g1, _⟩ | ⟨_, x', q', g1, g2, g3⟩
    · omega
    · omega
    · obtain ⟨u1, u2⟩ := best_uni h1 g1
      have h81 := best_81 (fun p => end_le) h1
      subst u1
      rw [h2, g2]
      refine ⟨rfl, fun z => ?_, (hd x h81).1⟩
      have hx := (hd x h81).2 z
      rw [(h3 hx).1, (h3 hx).2, (g3 hx).1, (g3 hx).2, u2 hx]
      exact ⟨fun _ => rfl, fun _ => rfl⟩
/-- both find the same worst -/
theorem both_worst {σ τ : St} (h : Rel σ τ) {f : Nat} (hf : f ≤ 2) : ∃ bw bc σ1 σ' τ1 τ' w, fX4_orderInto bw bc σ = some σ1 ∧ fX0_findWorst σ1 (nI f) = some σ' ∧ fX10_findOrder τ = some τ1 ∧ fX10_findWorst τ1 (nI f) = some (w, τ') ∧ Rel σ' τ' ∧ bw + bc + Pot σ ≤ Pot σ' ∧ gi σ' 19 = nI f ∧ gi σ' 20 = w ∧ (w = -1 ∨ 0 ≤ w) ∧ (w ≠ -1 → (1 ≤ f → gi σ' 21 = gi τ' 18) ∧ (2 ≤ f → gi σ' 22 = gi τ' 19)) := by
  obtain ⟨bw, bc, σ1, τ1, ord, p1, p2, p3, p4, p5, p6, p7, p8, p9⟩ := both_order h
  obtain ⟨hA, ⟨hs, hk, ht, ⟨c1, c2, c3⟩⟩, hwy, hpx, hpm, hz, hl⟩ := id p3
  obtain ⟨x1, x2, x3⟩ := st_get hs hk
  obtain ⟨y1, y2, y3⟩ := td_get hs ht
  have hP : ∀ s u, s < (tdX σ1).1 → u < (tdX σ1).1 → 1 ≤ (tdX σ1).2.2.1 s u := fun s u hs hu => (y1.2.2.2.1 s u (by have := y1.1; omega) (by have := y1.1; omega)).1
  obtain ⟨L1, L2⟩ := lx_get p3 p7 p8 p9
  have hb01 : ∀ e, e < 80 → b01 (ga τ1 21 e) := fun e he => by
    obtain ⟨_, _, _, _, q4, q5⟩ := c3 e he
    rw [← q4]; exact q5
  obtain ⟨lo, hl', w, x, y, m1, m2⟩ := worstM L2 hb01 hf
  by_cases c : gi σ1 19 = nI f
  · -- it is known
    have hkn : WorstKnown (sdX σ1) (tdX σ1) (ga σ1 19) (ga σ1 36) (ga σ1 37) (gi σ1 18) (gi σ1 19) (gi σ1 20) (gi σ1 21) (gi σ1 22) := by
      rcases hz with q | q
      · rw [c] at q; exact absurd q (nI_ne1 (by omega))
      · exact q
    obtain ⟨ord', f', o1, o2, o3⟩ := hkn
    have eo := ord_uni hP o1 p6
    subst eo
    have hf' : f' ≤ 2 := by
      rcases o3 with ⟨q, _⟩ | ⟨q, _⟩ | ⟨q, _⟩ <;> omega
    have ef : f' = f := nI_inj (by omega) (by omega) (o2.symm.trans c)
    subst ef
    obtain ⟨u1, u2, u3⟩ := wres_uni o3 m2
    refine ⟨bw, bc, σ1, σ1, τ1, nmM τ1 (ga τ1 21) lo hl' x y, w, p1, ?_, p2, m1, ⟨hA, ⟨hs, hk, ht, ⟨c1, c2, c3⟩⟩, hwy, hpx, hpm, hz, hl⟩, p4, c, u1, by rw [← u1]; exact u3, fun q => u2 (by rw [u1]; exact q)⟩
    unfold fX0_findWorst
    rw [if_pos c]
  · obtain ⟨th, lo2, w2, a2, b2, n1, n2, n3⟩ := worstX L1 c2 hf c
    obtain ⟨u1, u2, u3⟩ := wres_uni n3 m2
    refine ⟨bw, bc, σ1, nmX (si σ1 19 (nI f)) th lo2 w2 a2 b2, τ1, nmM τ1 (ga τ1 21) lo hl' x y, w, p1, n1, p2, m1, ⟨hA, ⟨hs, hk, ht, ⟨c1, n2, c3⟩⟩, hwy, hpx, hpm, Or.inr ⟨ord, f, p6, rfl, n3⟩, hl⟩, p4, rfl, u1, by rw [← u1]; exact u3, fun q => u2 (by rw [u1]; exact q)⟩
theorem e_worst {σ τ : St} (h : Rel σ τ) (v1 v2 v3 : Int32) : TwoP σ (fun bw bc => fX9_worst bw bc σ v1 v2 v3) (fX10_worst τ v1 v2 v3) := by
  obtain ⟨_, ⟨⟨n, _, _, _, e1, e2, _⟩, _⟩, _⟩ := id h
  unfold fX9_worst fX10_worst
  simp only [within_eq, in_eq, obS, i10, i01, Int32.toInt_toInt64]
  simp only [show (0 : Int64).toInt = (0 : Int32).toInt from rfl, show (1 : Int64).toInt = (1 : Int32).toInt from rfl, show (2 : Int64).toInt = (2 : Int32).toInt from rfl]
  rw [show gi τ 9 = gi σ 10 by rw [e1, e2]]
  have triv : ∀ (r : Int32) (f : Nat → Nat → Option (Int32 × St)) (y : Option (Int32 × St)), f 0 0 = some (r, σ) → y = some (r, τ) → TwoP σ f y := fun r f y q1 q2 => ⟨0, 0, r, σ, τ, q1, q2, h, Pot_refl⟩
  by_cases c1 : (0 : Int32).toInt ≤ v1.toInt ∧ v1.toInt ≤ (2 : Int32).toInt
  · by_cases c2 : (0 : Int32).toInt ≤ v2.toInt ∧ v2.toInt ≤ (1 : Int32).toInt
    · obtain ⟨f, rfl, l1, u1⟩ := t_nat' (a := 0) (b := 2) (by decide) c1
      have hf : f ≤ 2 := by omega
      by_cases cn : gi σ 10 = 0
      · by_cases cv : v2 = 1
        · by_cases c3 : 0 ≤ v3
          · exact triv (-1) _ _ (by simp only [if_neg (not_not_intro c1), if_neg (not_not_intro c2), if_pos cv, if_pos c3, if_pos cn]) (by rw [if_neg (not_not_intro c1), if_neg (not_not_intro c2), if_pos cv, if_pos c3, if_pos cn])
          · exact triv (-2) _ _ (by simp only [if_neg (not_not_intro c1), if_neg (not_not_intro c2), if_pos cv, if_neg c3]) (by rw [if_neg (not_not_intro c1), if_neg (not_not_intro c2), if_pos cv, if_neg c3])
        · exact triv (-1) _ _ (by simp only [if_neg (not_not_intro c1), if_neg (not_not_intro c2), if_neg cv, if_pos cn]) (by rw [if_neg (not_not_intro c1), if_neg (not_not_intro c2), if_neg cv, if_pos cn])
      · obtain ⟨bw, bc, σ1, σ', τ1, τ', w, p1, p2, p3, p4, p5, p6, p7, p8, p9, p10⟩ := both_worst h hf
        by_cases cv : v2 = 1
        · by_cases c3 : 0 ≤ v3
          · -- which day
            have hne : ¬ v2 = 0 := by rw [cv]; decide
            refine ⟨bw, bc, if w = -1 then -1 else if v3 < nI f then (if v3 = 0 then gi τ' 18 else gi τ' 19) else -1, σ', τ', ?_, ?_, p5, p6⟩
            · simp only [if_neg (not_not_intro c1), if_neg (not_not_intro c2), if_pos cv, if_pos c3, if_neg cn, p1, obS, p2, if_neg hne]
              unfold fX0_worstDay
              rw [p7, p8]
              by_cases q : w = -1
              · rw [if_pos q, if_pos q]; rfl
              · obtain ⟨r1, r2⟩ := p10 q
                rw [if_neg q, if_neg q]
                by_cases q2 : v3 < nI f
                · rw [if_pos q2, if_pos q2]
                  have hvf : v3.toInt < (f : Int) := by rw [lt_toInt, nI_toInt (by omega)] at q2; exact q2
                  have hv0 : 0 ≤ v3.toInt := by rw [le_toInt] at c3; exact c3
                  by_cases q3 : v3 = 0
                  · rw [if_pos q3, if_pos q3, r1 (by omega)]; rfl
                  · rw [if_neg q3, if_neg q3, r2 (by
                      have : v3.toInt ≠ 0 := fun z => q3 (by rw [eq_toInt]; exact z)
                      omega)]; rfl
                · rw [if_neg q2, if_neg q2]; rfl
            · rw [if_neg (not_not_intro c1), if_neg (not_not_intro c2), if_pos cv, if_pos c3, if_neg cn, p3]
              simp only [obS]
              rw [p4]
              simp only [obS]
              rw [if_neg hne]
              rcases p9 with q | q
              · rw [if_pos q, if_neg (show ¬ 0 ≤ w by rw [q]; decide), q]
              · rw [if_neg (show ¬ w = -1 from fun z => by rw [z] at q; exact absurd q (by decide)), if_pos q]
                by_cases q2 : v3 < nI f
                · rw [if_pos q2, if_pos q2]
                  by_cases q3 : v3 = 0
                  · rw [if_pos q3, if_pos q3]
                  · rw [if_neg q3, if_neg q3]
                · rw [if_neg q2, if_neg q2]
          · exact triv (-2) _ _ (by simp only [if_neg (not_not_intro c1), if_neg (not_not_intro c2), if_pos cv, if_neg c3]) (by rw [if_neg (not_not_intro c1), if_neg (not_not_intro c2), if_pos cv, if_neg c3])
        · have hz : v2 = 0 := by
            rw [eq_toInt]
            have a1 : 0 ≤ v2.toInt := c2.1
            have a2 : v2.toInt ≤ 1 := c2.2
            have a3 : v2.toInt ≠ 1 := fun z => cv (by rw [eq_toInt]; exact z)
            show v2.toInt = 0
            omega
          refine ⟨bw, bc, w, σ', τ', ?_, ?_, p5, p6⟩
          · simp only [if_neg (not_not_intro c1), if_neg (not_not_intro c2), if_neg cv, if_neg cn, p1, obS, p2, if_pos hz, p8]
          · rw [if_neg (not_not_intro c1), if_neg (not_not_intro c2), if_neg cv, if_neg cn, p3]
            simp only [obS]
            rw [p4]
            simp only [obS]
            rw [if_pos hz]
    · exact triv (-2) _ _ (by simp only [if_neg (not_not_intro c1), if_pos c2]) (by rw [if_neg (not_not_intro c1)]; exact if_pos c2)
  · exact triv (-2) _ _ (by simp only [if_pos c1]) (if_pos c1)
