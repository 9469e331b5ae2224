/-! the reference lays -/
def wsM (τ : St) (lo hl : Nat → Int32) : St := saf (saf τ 23 lo) 24 hl
def LM (τ : St) (C : CD) (fz : Nat → Bool) : Prop := C.1 ≤ 14 ∧ gi τ 9 = nI C.1 ∧ (∀ k, k < C.1 → ga τ 22 k = nI (C.2.1 k) ∧ C.2.1 k < C.1) ∧ (∀ i, i < C.1 → ga τ 10 i = nI (C.2.2.1 i) ∧ 1 ≤ C.2.2.1 i ∧ C.2.2.1 i ≤ 12) ∧ (∀ i, i < C.1 → ga τ 11 i = nI (C.2.2.2.1 i) ∧ C.2.2.2.1 i < 2 ^ 14) ∧ (∀ e, e < 80 → ga τ 20 e = nI (C.2.2.2.2.1 e) ∧ C.2.2.2.2.1 e ≤ 16) ∧ gi τ 17 = nI C.2.2.2.2.2 ∧ C.2.2.2.2.2 ≤ 10 ∧ (∀ e, e < 80 → (ga τ 21 e = 0 ↔ fz e = false)) ∧ ∀ k r, k < C.1 → r < C.1 → (C.2.2.2.1 (C.2.1 k)).testBit r = true → ∃ j, j < k ∧ C.2.1 j = r
theorem ws_23 (τ : St) (lo hl : Nat → Int32) (i : Nat) (v : Int32) : sa (wsM τ lo hl) 23 i v = wsM τ (upd lo i v) hl := by
  unfold wsM
  rw [show sa (saf (saf τ 23 lo) 24 hl) 23 i v = saf (saf (saf τ 23 lo) 24 hl) 23 (upd lo i v) from rfl, saf_comm _ (show 24 ≠ 23 by decide), saf_saf]
theorem ws_24 (τ : St) (lo hl : Nat → Int32) (i : Nat) (v : Int32) : sa (wsM τ lo hl) 24 i v = wsM τ lo (upd hl i v) := sa_saf (saf τ 23 lo) 24 i hl v
theorem dryM {τ : St} {C : CD} {fz : Nat → Bool} (h : LM τ C fz) {b e : Nat} (hb : b < 80) (he : e < 80) : fX10_isDry τ (nI b) (nI e) = some (i01B (decide (C.2.2.2.2.2 ≤ thN fz e - thN fz (b + 1)))) := by
  have hd := h.2.2.2.2.2.2.2.1
  have e1 := h.2.2.2.2.2.2.1
  have hfz := h.2.2.2.2.2.2.2.2.1
  have b1 := th_b fz e
  unfold fX10_isDry
  rw [nI_1]
  have fin : ∀ x v4, x ≤ 80 → fX10_isDry_7_k τ (nI b) (nI e) (nI x) v4 = some (i01B (decide (C.2.2.2.2.2 ≤ x))) := fun x v4 hx => by
    unfold fX10_isDry_7_k
    rw [e1]
    by_cases c : x < C.2.2.2.2.2
    · rw [if_pos (nI_lt c (by omega)), decide_eq_false (by omega)]; rfl
    · rw [if_neg (nI_nlt (by omega) (by omega)), decide_eq_true (by omega)]; rfl
  by_cases c : b + 1 ≤ e
  · obtain ⟨s', a1, a2⟩ := for_loop (fX10_isDry_7 (fX10_isDry_7_k τ (nI b) (nI e)) τ (nI b) (nI e)) (fX10_isDry_7_k τ (nI b) (nI e)) (fun k v => b + 1 ≤ k ∧ v = nI (thN fz k - thN fz (b + 1))) e
      (fun n v _ => by rw [fX10_isDry_7, if_pos (nI_le (Nat.le_refl _) (by omega))])
      (fun n k v hk => by
        rintro ⟨hbk, rfl⟩
        have hm := th_le (fz := fz) hbk
        have hs := th_s fz k
        rw [fX10_isDry_7, if_neg (nI_ge hk (by omega)), if_pos (inx (show k < 80 by omega) (by decide)), nI_clamp (by omega), nI_1, bit01 (Or.inr rfl), bit01 (Or.inl rfl)]
        simp only [obS]
        cases hf : fz k
        · rw [hf] at hs
          rw [if_pos ((hfz k (by omega)).mpr hf), nI_1]
          refine ⟨_, ⟨by omega, ?_⟩, rfl⟩
          rw [hs]
          congr 1
          rw [if_neg (by decide)]
          omega
        · rw [hf] at hs
          rw [if_neg (fun q => absurd ((hfz k (by omega)).mp q) (by rw [hf]; decide)), show nI (thN fz k - thN fz (b + 1)) + (0 : Int32) = nI (thN fz k - thN fz (b + 1)) from nI_add _ 0]
          refine ⟨_, ⟨by omega, ?_⟩, rfl⟩
          rw [hs]
          rfl) (e - (b + 1)) (b + 1) KF (0 : Int32) (by omega) (by have := KF_ge; omega) ⟨Nat.le_refl _, by rw [Nat.sub_self]; rfl⟩
    rw [a2, a1.2]
    exact fin _ _ (by omega)
  · obtain ⟨f0, hf0⟩ : ∃ f0, KF = f0 + 1 := ⟨KF - 1, by have := KF_ge; omega⟩
    have hm := th_le (fz := fz) (show e ≤ b + 1 by omega)
    rw [hf0, fX10_isDry_7, if_pos (nI_le (by omega) (by omega)), show (0 : Int32) = nI 0 from rfl, fin _ _ (by omega), show thN fz e - thN fz (b + 1) = 0 by omega]
/-- all beds are dry, of those ahead of k -/
def alD (C : CD) (fz : Nat → Bool) (lo : Nat → Nat) (i e : Nat) : Nat → Bool
  | 0 => true
  | k + 1 => alD C fz lo i e k && (!(C.2.2.2.1 i).testBit k || decide (C.2.2.2.2.2 ≤ thN fz e - thN fz (lo k + 1)))
theorem alD_iff {C : CD} {fz : Nat → Bool} {lo : Nat → Nat} {i e : Nat} : ∀ k, alD C fz lo i e k = true ↔ ∀ r, r < k → (C.2.2.2.1 i).testBit r = true → C.2.2.2.2.2 ≤ thN fz e - thN fz (lo r + 1)
  | 0 => ⟨fun _ r hr => by omega, fun _ => rfl⟩
  | k + 1 => by
    have ih := alD_iff (C := C) (fz := fz) (lo := lo) (i := i) (e := e) k
    rw [alD, Bool.and_eq_true, ih, Bool.or_eq_true, decide_eq_true_iff]
    constructor
    · rintro ⟨h1, h2⟩ r hr hb
      by_cases c : r = k
      · subst c
        rcases h2 with q | q
        · rw [hb] at q; exact absurd q (by decide)
        · exact q
      · exact h1 r (by omega) hb
    · intro h1
      refine ⟨fun r hr hb => h1 r (by omega) hb, ?_⟩
      cases hb : (C.2.2.2.1 i).testBit k
      · exact Or.inl rfl
      · exact Or.inr (h1 k (by omega) hb)
theorem alD_dry {C : CD} {fz : Nat → Bool} {lo : Nat → Nat} {i e : Nat} : alD C fz lo i e C.1 = dryB C fz lo i e := by
  have h1 := alD_iff (C := C) (fz := fz) (lo := lo) (i := i) (e := e) C.1
  have h2 := dry_all (C := C) (fz := fz) (lo := lo) (i := i) (e := e)
  cases ha : alD C fz lo i e C.1
  · cases hd : dryB C fz lo i e
    · rfl
    · rw [ha] at h1
      exact absurd (h1.mpr (h2.mp hd)) (by decide)
  · exact (h2.mpr (h1.mp ha)).symm
theorem alD_f {C : CD} {fz : Nat → Bool} {lo : Nat → Nat} {i e k : Nat} (h : alD C fz lo i e k = false) : ∀ r, alD C fz lo i e (k + r) = false
  | 0 => h
  | r + 1 => by rw [← Nat.add_assoc, alD, alD_f h r, Bool.false_and]
theorem onM {τ : St} {C : CD} {fz : Nat → Bool} (h : LM τ C fz) {i e : Nat} (hi : i < C.1) (he : e < 80) {lo : Nat → Nat} (hl : ∀ r, r < C.1 → (C.2.2.2.1 i).testBit r = true → lo r < 80 ∧ ga τ 23 r = nI (lo r)) (b0 : Bool) : fX10_mayOn_J29 τ (nI i) (nI e) (i01B b0) = some (i01B (b0 && dryB C fz lo i e)) := by
  have hn := h.1
  have e1 := h.2.1
  obtain ⟨r1, r2⟩ := h.2.2.2.2.1 i hi
  rw [← alD_dry]
  unfold fX10_mayOn_J29
  have key : ∀ r k F, k + r = C.1 → r < F → fX10_mayOn_33 (fX10_mayOn_33_k τ (nI i) (nI e)) τ (nI i) (nI e) F (i01B (b0 && alD C fz lo i e k)) (nI k) = some (i01B (b0 && alD C fz lo i e C.1)) := by
    have fin : ∀ b v4, fX10_mayOn_33_k τ (nI i) (nI e) (i01B b) v4 = some (i01B b) := fun b v4 => by
      unfold fX10_mayOn_33_k
      rw [if_pos (nw01 (i01B_b b))]
    intro r
    induction r with
    | zero =>
      intro k F hk hF
      cases F with
      | zero => omega
      | succ F =>
        have : k = C.1 := by omega
        subst this
        rw [fX10_mayOn_33, e1, if_pos (nI_le (Nat.le_refl _) (by omega)), fin]
    | succ r ih =>
      intro k F hk hF
      cases F with
      | zero => omega
      | succ F =>
        rw [fX10_mayOn_33, e1, if_neg (nI_ge (show k < C.1 by omega) (by omega))]
        cases hfl : (b0 && alD C fz lo i e k)
        · rw [if_pos (show i01B false = 0 from rfl), fin]
          congr 2
          cases b0
          · rfl
          · rw [Bool.true_and] at hfl ⊢
            have := alD_f hfl (r + 1)
            rw [hk] at this
            exact this.symm
        · rw [Bool.and_eq_true] at hfl
          have hnx := ih (k + 1) F (by omega) (by omega)
          rw [alD, hfl.2, hfl.1, Bool.true_and, Bool.true_and] at hnx
          rw [if_neg (show ¬ i01B true = 0 by decide), if_pos (inx (show i < 14 by omega) (by decide)), nI_clamp (show i < 2 ^ 31 by omega), r1, bit_eq (by omega) (by omega), hfl.1]
          unfold fX10_mayOn_J80
          rw [nI_1]
          cases hb : (C.2.2.2.1 i).testBit k
          · rw [hb] at hnx
            rw [(bit_f _ k).mpr hb, if_pos (show nI 0 = 0 from rfl)]
            exact hnx
          · rw [hb, Bool.not_true, Bool.false_or] at hnx
            obtain ⟨l1, l2⟩ := hl k (by omega) hb
            rw [(bit_t _ k).mpr hb, if_neg (show ¬ nI 1 = 0 by decide), if_pos (inx (show k < 14 by omega) (by decide)), nI_clamp (by omega), l2, dryM h l1 he]
            simp only [obS, i01B_0]
            cases hd : decide (C.2.2.2.2.2 ≤ thN fz e - thN fz (lo k + 1))
            · rw [if_pos rfl]
              rw [hd] at hnx
              exact hnx
            · rw [if_neg (show ¬ (true = false) by decide)]
              rw [hd] at hnx
              exact hnx
  have := key C.1 0 KF (by omega) (by have := KF_ge; omega)
  rw [alD, Bool.and_true] at this
  exact this
/-- the hours left of the days: of this one, and of those behind it -/
def HlOK (C : CD) (fz : Nat → Bool) (e l : Nat) (hl : Nat → Int32) : Prop := e < 80 → ((fz e = true → l = 0) ∧ (fz e = false → hl e = nI l)) ∧ ∀ x, e < x → x < 80 → hl x = nI (C.2.2.2.2.1 x)
theorem HlOK_s {C : CD} {fz : Nat → Bool} {e l : Nat} {hl : Nat → Int32} (h : HlOK C fz e l hl) : HlOK C fz (e + 1) (wkN C fz (e + 1)) hl := fun he => by
  obtain ⟨_, h2⟩ := h (by omega)
  refine ⟨⟨fun hf => ?_, fun hf => ?_⟩, fun x hx hx' => h2 x (by omega) hx'⟩
  · unfold wkN; rw [if_neg (fun q => by rw [hf] at q; exact absurd q.2 (by decide))]
  · unfold wkN; rw [if_pos ⟨he, hf⟩]; exact h2 (e + 1) (by omega) he
theorem mayOnM {τ : St} {C : CD} {fz : Nat → Bool} (h : LM τ C fz) {i e l : Nat} (hi : i < C.1) (he : e < 80) {lo : Nat → Nat} (hl : ∀ r, r < C.1 → (C.2.2.2.1 i).testBit r = true → lo r < 80 ∧ ga τ 23 r = nI (lo r)) (hh : HlOK C fz e l (ga τ 24)) (hl16 : l ≤ 16) : fX10_mayOn τ (nI i) (nI e) = some (i01B (decide (¬ (l < C.2.2.1 i ∨ dryB C fz lo i e = false)))) := by
  have hn := h.1
  obtain ⟨a1, a2, a3⟩ := h.2.2.2.1 i hi
  obtain ⟨⟨q1, q2⟩, _⟩ := hh he
  have hfz := h.2.2.2.2.2.2.2.2.1
  unfold fX10_mayOn
  rw [if_pos (inx he (by decide)), nI_clamp (show e < 2 ^ 31 by omega)]
  cases hf : fz e
  · rw [if_pos ((hfz e he).mpr hf), if_pos (inx' he (by decide)), if_pos (inx (show i < 14 by omega) (by decide)), nI_clamp (by omega), a1, q2 hf]
    by_cases c : l < C.2.2.1 i
    · rw [if_pos (nI_lt c (by omega)), show fX10_mayOn_J29 τ (nI i) (nI e) 0 = _ from onM h hi he hl false, Bool.false_and, decide_eq_false (fun w => w (Or.inl c))]
    · rw [if_neg (nI_nlt (by omega) (by omega)), show fX10_mayOn_J29 τ (nI i) (nI e) 1 = _ from onM h hi he hl true, Bool.true_and]
      cases hd : dryB C fz lo i e
      · rw [decide_eq_false (fun w => w (Or.inr rfl))]
      · rw [decide_eq_true (show ¬ (l < C.2.2.1 i ∨ true = false) from fun w => w.elim c (fun z => absurd z (by decide)))]
  · rw [if_neg (fun q => absurd ((hfz e he).mp q) (by rw [hf]; decide)), show fX10_mayOn_J29 τ (nI i) (nI e) 0 = _ from onM h hi he hl false, Bool.false_and, decide_eq_false (fun w => w (Or.inl (by rw [q1 hf]; omega)))]
theorem waitM {τ : St} {C : CD} {fz : Nat → Bool} (h : LM τ C fz) {i : Nat} (hi : i < C.1) {lo : Nat → Nat} (hlo : ∀ r, r < C.1 → (C.2.2.2.1 i).testBit r = true → lo r < 80 ∧ ga τ 23 r = nI (lo r)) (k30 : St → Int32 → Int32 → Option (Int32 × St)) (K : Int32 → Option (Int32 × St)) (v2 : Int32) : ∀ r e l f F, e + r = 80 → r < F → r < f → l ≤ 16 → HlOK C fz e l (ga τ 24) → fX10_layAll_45 k30 K τ v2 (nI i) F (nI e) = K (nI (goN C fz lo i f e l).1) ∧ HlOK C fz (goN C fz lo i f e l).1 (goN C fz lo i f e l).2 (ga τ 24) := by
  have hli : ∀ e, e < 80 → C.2.2.2.2.1 e ≤ 16 := fun e he => (h.2.2.2.2.2.1 e he).2
  intro r
  induction r with
  | zero =>
    intro e l f F he hF hf hl hh
    cases F with
    | zero => omega
    | succ F =>
      cases f with
      | zero => omega
      | succ f =>
        rw [fX10_layAll_45, goN, if_pos (show (80 : Int32) ≤ nI e from nI_le (a := 80) (by omega) (by omega)), if_pos (show 80 ≤ e by omega)]
        exact ⟨rfl, hh⟩
  | succ r ih =>
    intro e l f F he hF hf hl hh
    cases F with
    | zero => omega
    | succ F =>
      cases f with
      | zero => omega
      | succ f =>
        have hnx := ih (e + 1) (wkN C fz (e + 1)) f F (by omega) (by omega) (by omega) (wk_le hli _) (HlOK_s hh)
        rw [fX10_layAll_45, goN, if_neg (show ¬ (80 : Int32) ≤ nI e from nI_ge (b := 80) (by omega) (by decide)), if_neg (show ¬ 80 ≤ e by omega), mayOnM h hi (show e < 80 by omega) hlo hh hl, nI_1]
        simp only [obS, i01B_0]
        by_cases c : l < C.2.2.1 i ∨ dryB C fz lo i e = false
        · rw [if_pos c, if_pos (decide_eq_false (fun w => w c))]
          exact hnx
        · rw [if_neg c, if_neg (by rw [decide_eq_true c]; decide)]
          exact ⟨rfl, hh⟩
theorem layM {τ : St} {C : CD} {fz : Nat → Bool} (h : LM τ C fz) : ∃ lo hl, fX10_layAll τ = some (nI (endN C fz), wsM τ lo hl) ∧ LoOK C fz C.1 lo := by
  have hn := h.1
  have hli : ∀ e, e < 80 → C.2.2.2.2.1 e ≤ 16 := fun e he => (h.2.2.2.2.2.1 e he).2
  unfold fX10_layAll
  obtain ⟨s', ⟨hl, a1, a2⟩, a3⟩ := for_loop0 (fX10_layAll_2 fX10_layAll_2_k) fX10_layAll_2_k (fun k st => ∃ hl, st = saf τ 24 hl ∧ ∀ e, e < k → hl e = nI (C.2.2.2.2.1 e)) 80 (by decide)
    (fun n st _ => by rw [fX10_layAll_2, if_pos (show (80 : Int32) ≤ nI 80 by decide)])
    (fun n k st hk => by
      rintro ⟨hl, rfl, hI⟩
      rw [fX10_layAll_2, if_neg (show ¬ (80 : Int32) ≤ nI k from nI_ge (b := 80) hk (by decide)), if_pos (inx hk (by decide)), if_pos (inx hk (by decide)), nI_clamp (by omega), sa_saf, show ga (saf τ 24 hl) 20 k = nI (C.2.2.2.2.1 k) from (h.2.2.2.2.2.1 k hk).1, nI_1]
      refine ⟨_, ⟨_, rfl, fun e he => ?_⟩, rfl⟩
      by_cases c : e = k
      · subst c; exact pk_us
      · rw [pk_un c]; exact hI e (by omega))
    τ ⟨ga τ 24, (saf_self τ 24).symm, fun e he => by omega⟩
  rw [a3, a1]
  unfold fX10_layAll_2_k
  have hst : saf τ 24 hl = wsM τ (ga τ 23) hl := by
    unfold wsM
    rw [show saf τ 23 (ga τ 23) = τ from saf_self τ 23]
  rw [hst]
  obtain ⟨s2, ⟨lo', hl', b1, b2, b3, b4⟩, b5⟩ := for_loop0 (fun n (s : St × Int32) i => fX10_layAll_30 fX10_layAll_30_k n s.1 s.2 i) (fun s i => fX10_layAll_30_k s.1 s.2 i) (fun k (s : St × Int32) => ∃ lo hl, s.1 = wsM τ lo hl ∧ s.2 = nI (layN C fz k).1 ∧ LoOK C fz k lo ∧ HlOK C fz (layN C fz k).1 (layN C fz k).2.1 hl) C.1 (by omega)
    (fun n s => by
      rintro ⟨lo, hl, q1, q2, _⟩
      show fX10_layAll_30 fX10_layAll_30_k (n + 1) s.1 s.2 (nI C.1) = fX10_layAll_30_k s.1 s.2 (nI C.1)
      rw [q1, fX10_layAll_30, show gi (wsM τ lo hl) 9 = nI C.1 from h.2.1, if_pos (nI_le (Nat.le_refl _) (by omega))])
    (fun n k s hk => by
      obtain ⟨st, v⟩ := s
      rintro ⟨lo, hl, q1, q2, hL, hH⟩
      have q1 : st = wsM τ lo hl := q1
      have q2 : v = nI (layN C fz k).1 := q2
      subst q1 q2
      obtain ⟨o1, o2⟩ := h.2.2.1 k hk
      have hd := lay_le (C := C) (fz := fz) k
      have hW : LM (wsM τ lo hl) C fz := h
      have hs1 : (layN C fz (k + 1)).1 = (goN C fz (layN C fz k).2.2 (C.2.1 k) 81 (layN C fz k).1 (layN C fz k).2.1).1 := rfl
      have hs2 : (layN C fz (k + 1)).2.1 = (goN C fz (layN C fz k).2.2 (C.2.1 k) 81 (layN C fz k).1 (layN C fz k).2.1).2 - C.2.2.1 (C.2.1 k) := rfl
      have hle := go_le (C := C) (fz := fz) (lo := (layN C fz k).2.2) (i := C.2.1 k) 81 (layN C fz k).1 (layN C fz k).2.1 (by omega)
      have hfit := go_fit (C := C) (fz := fz) (lo := (layN C fz k).2.2) (i := C.2.1 k) 81 (layN C fz k).1 (layN C fz k).2.1 (by omega)
      have hLs := LoOK_s hL
      show ∃ s' : St × Int32, _ ∧ fX10_layAll_30 fX10_layAll_30_k (n + 1) (wsM τ lo hl) (nI (layN C fz k).1) (nI k) = fX10_layAll_30 fX10_layAll_30_k n s'.1 s'.2 (nI (k + 1))
      rw [fX10_layAll_30, show gi (wsM τ lo hl) 9 = nI C.1 from h.2.1, if_neg (nI_ge hk (by omega)), if_pos (inx (show k < 14 by omega) (by decide)), nI_clamp (show k < 2 ^ 31 by omega), show ga (wsM τ lo hl) 22 k = nI (C.2.1 k) from o1]
      -- the day that is found
      have found : fX10_layAll_45 (fun σ30' v1_30' v2_30' => fX10_layAll_30 fX10_layAll_30_k n σ30' v1_30' v2_30') (fX10_layAll_45_k (fun σ30' v1_30' v2_30' => fX10_layAll_30 fX10_layAll_30_k n σ30' v1_30' v2_30') (wsM τ lo hl) (nI k) (nI (C.2.1 k))) (wsM τ lo hl) (nI k) (nI (C.2.1 k)) KF (nI (layN C fz k).1) = fX10_layAll_45_k (fun σ30' v1_30' v2_30' => fX10_layAll_30 fX10_layAll_30_k n σ30' v1_30' v2_30') (wsM τ lo hl) (nI k) (nI (C.2.1 k)) (nI (layN C fz (k + 1)).1) ∧ HlOK C fz (layN C fz (k + 1)).1 (goN C fz (layN C fz k).2.2 (C.2.1 k) 81 (layN C fz k).1 (layN C fz k).2.1).2 hl := by
        by_cases c80 : (layN C fz k).1 < 80
        · exact waitM hW o2 (lo := (layN C fz k).2.2) (fun q hq hb => by
            obtain ⟨j, j1, j2⟩ := h.2.2.2.2.2.2.2.2.2 k q hk hq hb
            have h1 := lay_lo (C := C) (fz := fz) k j j1
            have h2 := hL j j1
            rw [j2] at h1 h2
            refine ⟨by omega, ?_⟩
            show lo q = _
            rw [h2]
            unfold lv
            rw [if_pos (by omega)]) _ _ (nI k) (80 - (layN C fz k).1) (layN C fz k).1 (layN C fz k).2.1 81 KF (by omega) (by have := KF_ge; omega) (by omega) (lay_left hli k) hH
        · have hs := lay_s (C := C) (fz := fz) k
          have hb := lay_le (C := C) (fz := fz) (k + 1)
          obtain ⟨f0, hf0⟩ : ∃ f0, KF = f0 + 1 := ⟨KF - 1, by have := KF_ge; omega⟩
          refine ⟨?_, fun q => by omega⟩
          rw [hf0, fX10_layAll_45, if_pos (show (80 : Int32) ≤ nI (layN C fz k).1 from nI_le (a := 80) (by omega) (by omega)), show (layN C fz (k + 1)).1 = (layN C fz k).1 by omega]
      rw [found.1]
      unfold fX10_layAll_45_k
      rw [nI_1]
      by_cases c : (layN C fz (k + 1)).1 < 80
      · rw [if_neg (show ¬ (80 : Int32) ≤ nI (layN C fz (k + 1)).1 from nI_ge (b := 80) c (by decide)), if_pos (inx (show C.2.1 k < 14 by omega) (by decide)), if_neg (show ¬ (80 : Int32) ≤ nI (layN C fz (k + 1)).1 from nI_ge (b := 80) c (by decide)), if_pos (inx c (by decide)), if_pos (inx (show C.2.1 k < 14 by omega) (by decide)), if_pos (inx c (by decide)), nI_clamp (show C.2.1 k < 2 ^ 31 by omega), nI_clamp (show (layN C fz (k + 1)).1 < 2 ^ 31 by omega), ws_23, ws_24, show ga (wsM τ (upd lo (C.2.1 k) (nI (layN C fz (k + 1)).1)) hl) 10 (C.2.1 k) = nI (C.2.2.1 (C.2.1 k)) from (h.2.2.2.1 _ o2).1, show ga (wsM τ (upd lo (C.2.1 k) (nI (layN C fz (k + 1)).1)) hl) 24 = hl from rfl]
        obtain ⟨⟨f1, f2⟩, f3⟩ := found.2 c
        have fit := hfit (by rw [← hs1]; exact c)
        have h1 := (h.2.2.2.1 _ o2).2.1
        have hff : fz (layN C fz (k + 1)).1 = false := by
          cases hf : fz (layN C fz (k + 1)).1
          · rfl
          · have := f1 hf; omega
        rw [f2 hff, nI_sub fit]
        rw [show lv (layN C fz (k + 1)).1 = nI (layN C fz (k + 1)).1 from if_pos c] at hLs
        refine ⟨(_, _), ⟨_, _, rfl, rfl, hLs, fun _ => ⟨⟨fun q => ?_, fun _ => ?_⟩, fun x hx hx' => ?_⟩⟩, rfl⟩
        · rw [hff] at q; exact absurd q (by decide)
        · exact pk_us
        · rw [pk_un (by omega)]; exact f3 x hx hx'
      · rw [if_pos (show (80 : Int32) ≤ nI (layN C fz (k + 1)).1 from nI_le (a := 80) (by omega) (by omega)), if_pos (inx (show C.2.1 k < 14 by omega) (by decide)), if_pos (show (80 : Int32) ≤ nI (layN C fz (k + 1)).1 from nI_le (a := 80) (by omega) (by omega)), nI_clamp (show C.2.1 k < 2 ^ 31 by omega), ws_23]
        rw [show lv (layN C fz (k + 1)).1 = -1 from if_neg c] at hLs
        exact ⟨(_, _), ⟨_, _, rfl, rfl, hLs, fun q => absurd q c⟩, rfl⟩)
    (wsM τ (ga τ 23) hl, (0 : Int32)) ⟨_, _, rfl, rfl, fun j hj => by omega, fun _ => ⟨⟨fun q => by
      show wkN C fz 0 = 0
      unfold wkN
      rw [if_neg (fun w => by rw [show fz 0 = true from q] at w; exact absurd w.2 (by decide))], fun q => by
      show hl 0 = nI (wkN C fz 0)
      unfold wkN
      rw [if_pos ⟨by decide, q⟩]
      exact a2 0 (by decide)⟩, fun x _ hx' => a2 x hx'⟩⟩
  refine ⟨lo', hl', ?_, b3⟩
  refine Eq.trans b5 ?_
  show fX10_layAll_30_k s2.1 s2.2 (nI C.1) = _
  unfold fX10_layAll_30_k
  rw [b1, b2]
  rfl
