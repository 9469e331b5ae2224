/-! the stands, read off either state -/
def TX (σ : St) (n : Nat) (t : TD) : Prop := t.1 ≤ 5 ∧ gi σ 12 = nI t.1 ∧ (∀ s, s < t.1 → t.2.1 s ≤ 16383 ∧ ga σ 25 s = nI (t.2.1 s)) ∧ (∀ a b, a < 5 → b < 5 → 1 ≤ t.2.2.1 a b ∧ t.2.2.1 a b ≤ 100 ∧ ga σ (27 + a) b = nI (t.2.2.1 a b)) ∧ ∀ s i, s < t.1 → i < n → fX7_isNear σ (nI s) (ga σ 17 i) (ga σ 18 i) = some (i01B (t.2.2.2 s i))
def TM (τ : St) (n : Nat) (t : TD) : Prop := t.1 ≤ 5 ∧ gi τ 11 = nI t.1 ∧ (∀ s, s < t.1 → t.2.1 s ≤ 16383 ∧ ga τ 15 s = nI (t.2.1 s)) ∧ (∀ a b, a < 5 → b < 5 → 1 ≤ t.2.2.1 a b ∧ t.2.2.1 a b ≤ 100 ∧ ga τ 16 (5 * a + b) = nI (t.2.2.1 a b)) ∧ ∀ s i, s < t.1 → i < n → fX10_reachesOf τ (nI s) (nI i) = some (i01B (t.2.2.2 s i))
theorem td_get {σ τ : St} (hR : RStones σ τ) (hT : RStands σ τ) : TX σ (sdX σ).1 (tdX σ) ∧ TM τ (sdX σ).1 (tdX σ) ∧ tdM τ = tdX σ := by
  obtain ⟨n, c, hn, hc, e1, e2, e3, e4, hs⟩ := id hR
  obtain ⟨m, r, g, hm, t1, t2, ⟨r1, r2, r3, r4⟩, ⟨g1, g2, g3, g4⟩, t3, t4⟩ := id hT
  have en : (sdX σ).1 = n := by show (gi σ 10).toNatClampNeg = n; rw [e1, nI_clamp (by omega)]
  have em : (tdX σ).1 = m := by show (gi σ 12).toNatClampNeg = m; rw [t1, nI_clamp (by omega)]
  have k1 : ∀ s, s < m → (tdX σ).2.1 s = (ga σ 25 s).toNatClampNeg := fun s hs => if_pos (by rw [t1, nI_clamp (by omega)]; exact hs)
  have k2 : ∀ a b, a < 5 → b < 5 → (tdX σ).2.2.1 a b = (prX σ a b).toNatClampNeg := fun a b ha hb => if_pos ⟨ha, hb⟩
  refine ⟨⟨by omega, by rw [em]; exact t1, fun s hs => ?_, fun a b ha hb => ?_, fun s i hs hi => (near_eq hR hT e1 t1 (by omega) (by omega) hn hm).1⟩, ⟨by omega, by rw [em]; exact t2, fun s hs => ?_, fun a b ha hb => ?_, fun s i hs hi => (near_eq hR hT e1 t1 (by omega) (by omega) hn hm).2⟩, ?_⟩
  · obtain ⟨x, z, dd, q1, q2, q3, q4, q5, q6, q7, q8, q9⟩ := t3 s (by omega)
    rw [k1 s (by omega), q8, nI_clamp (by omega)]
    exact ⟨q3, rfl⟩
  · obtain ⟨p, p1, p2, p3, p4⟩ := t4 a b ha hb
    rw [k2 a b ha hb, prX_eq σ ha, p3, nI_clamp (by omega)]
    exact ⟨p1, p2, rfl⟩
  · obtain ⟨x, z, dd, q1, q2, q3, q4, q5, q6, q7, q8, q9⟩ := t3 s (by omega)
    rw [k1 s (by omega), q8, nI_clamp (by omega)]
    exact ⟨q3, q9⟩
  · obtain ⟨p, p1, p2, p3, p4⟩ := t4 a b ha hb
    rw [k2 a b ha hb, p3, nI_clamp (by omega)]
    exact ⟨p1, p2, p4⟩
  · unfold tdM tdX
    rw [t1, t2, e1, e2, r3, r4, g3, g4, nI_clamp (show m < 2 ^ 31 by omega), nI_clamp (show n < 2 ^ 31 by omega)]
    refine Prod.ext rfl (Prod.ext (funext fun s => ?_) (Prod.ext (funext fun a => funext fun b => ?_) (funext fun s => funext fun i => ?_)))
    · show (if s < m then (ga τ 15 s).toNatClampNeg else 0) = if s < m then (ga σ 25 s).toNatClampNeg else 0
      by_cases c : s < m
      · obtain ⟨x, z, dd, q1, q2, q3, q4, q5, q6, q7, q8, q9⟩ := t3 s c
        rw [if_pos c, if_pos c, q8, q9]
      · rw [if_neg c, if_neg c]
    · show (if a < 5 ∧ b < 5 then (ga τ 16 (5 * a + b)).toNatClampNeg else 1) = if a < 5 ∧ b < 5 then (prX σ a b).toNatClampNeg else 1
      by_cases c : a < 5 ∧ b < 5
      · obtain ⟨p, p1, p2, p3, p4⟩ := t4 a b c.1 c.2
        rw [if_pos c, if_pos c, p3, p4]
      · rw [if_neg c, if_neg c]
    · refine decide_eq_decide.mpr ?_
      by_cases c : s < m ∧ i < n
      · obtain ⟨x, z, dd, q1, q2, q3, q4, q5, q6, q7, q8, q9⟩ := t3 s c.1
        obtain ⟨x', z', w', r', a1, a2, a3, a4, a5, a6, a7, a8, a9, _⟩ := hs i c.2
        rw [a6, a7, a8, a9, q4, q5, q6, q7]
      · exact ⟨fun q => absurd ⟨q.1, q.2.1⟩ c, fun q => absurd ⟨q.1, q.2.1⟩ c⟩
theorem ix5 (a b : Nat) : (5 : Int32) * nI a + nI b = nI (5 * a + b) := by
  rw [show (5 : Int32) = nI 5 from rfl, pk_mul, nI_add]
theorem freeM {τ : St} {n : Nat} {t : TD} (h : TM τ n t) {set s : Nat} (hs : s < t.1) : fX10_isFree τ (nI set) (nI s) = some (i01B (freeD t set s)) := by
  obtain ⟨h1, h2, h3, h4, h5⟩ := h
  obtain ⟨q1, q2⟩ := h3 s hs
  have := ms_le (t.2.1 s) set
  unfold fX10_isFree freeD
  rw [if_pos (inx (show s < 5 by omega) (by decide)), nI_clamp (by omega), q2, nI_ms]
  by_cases c : ms (t.2.1 s) set = 0
  · rw [if_pos (by rw [c]; rfl), decide_eq_true c]; rfl
  · rw [if_neg (show ¬ nI (ms (t.2.1 s) set) = (0 : Int32) from fun e => c (nI_inj (by omega) (by decide) (show nI _ = nI 0 from e))), decide_eq_false c]; rfl
/-- a row of prices in the array of all -/
def rowU (c0 : Nat → Int32) (set m : Nat) (cc : Nat → Nat) : Nat → Int32 := fun j => if 5 * set ≤ j ∧ j < 5 * set + m then nI (cc (j - 5 * set)) else c0 j
theorem rowU_in {c0 : Nat → Int32} {set m s : Nat} {cc : Nat → Nat} (h : s < m) : rowU c0 set m cc (5 * set + s) = nI (cc s) := by
  unfold rowU
  rw [if_pos (by omega), show 5 * set + s - 5 * set = s by omega]
theorem rowU_out {c0 : Nat → Int32} {set m j : Nat} {cc : Nat → Nat} (h : j < 5 * set ∨ 5 * set + m ≤ j) : rowU c0 set m cc j = c0 j := if_neg (by omega)
theorem rowU_upd {c0 : Nat → Int32} {set m s x : Nat} {cc : Nat → Nat} (h : s < m) : upd (rowU c0 set m cc) (5 * set + s) (nI x) = rowU c0 set m (fun u => if u = s then x else cc u) := by
  funext j
  by_cases e : j = 5 * set + s
  · subst e; rw [pk_us, rowU_in h, if_pos rfl]
  · rw [pk_un e]
    unfold rowU
    by_cases c : 5 * set ≤ j ∧ j < 5 * set + m
    · rw [if_pos c, if_pos c]
      show nI (cc (j - 5 * set)) = nI (if j - 5 * set = s then x else cc (j - 5 * set))
      rw [if_neg (by omega)]
    · rw [if_neg c, if_neg c]
theorem rowU_s {c0 : Nat → Int32} {set m x : Nat} {cc : Nat → Nat} (h : cc m = x) : upd (rowU c0 set m cc) (5 * set + m) (nI x) = rowU c0 set (m + 1) cc := by
  funext j
  by_cases e : j = 5 * set + m
  · subst e; rw [pk_us, rowU_in (by omega), h]
  · rw [pk_un e]
    unfold rowU
    by_cases c : 5 * set ≤ j ∧ j < 5 * set + m
    · rw [if_pos c, if_pos (by omega)]
    · rw [if_neg c, if_neg (by omega)]
theorem rowU_0 {c0 : Nat → Int32} {set : Nat} {cc : Nat → Nat} : rowU c0 set 0 cc = c0 := funext fun j => rowU_out (by omega)
/-- where shifting starts -/
def stD (d : SD) (t : TD) (D : Nat → Nat → Nat) (set s : Nat) : Nat := if set = 2 ^ d.1 - 1 then 0 else baseD d t D set s
theorem stD_le {d : SD} {t : TD} {D : Nat → Nat → Nat} {set s : Nat} : stD d t D set s ≤ 1000000 := by
  unfold stD
  by_cases c : set = 2 ^ d.1 - 1
  · rw [if_pos c]; omega
  · rw [if_neg c]; exact bs_le _
/-- the costs of the sets above are known -/
def AbvOK (d : SD) (t : TD) (D : Nat → Nat → Nat) (set : Nat) (c : Nat → Int32) : Prop := ∀ set' s, set < set' → set' < 2 ^ d.1 → s < t.1 → c (5 * set' + s) = nI (D set' s) ∧ D set' s ≤ 1000000
theorem laysM {τ : St} {d : SD} {t : TD} {D : Nat → Nat → Nat} (hM : StM τ d) (hT : TM τ d.1 t) {set s : Nat} (hset : set < 2 ^ d.1) (hs : s < t.1) {c : Nat → Int32} (hc : AbvOK d t D set c) (k2 : St → Int32 → Option St) (v0 : Int32) (hv : v0 = if set = 2 ^ d.1 - 1 then 0 else 1000000) : fX10_findCosts_26 k2 (fX10_findCosts_26_k k2 (saf τ 18 c) (nI set) (nI (2 ^ d.1 - 1)) (nI s)) (saf τ 18 c) (nI set) (nI (2 ^ d.1 - 1)) (nI s) KF v0 0 = k2 (saf τ 18 (upd c (5 * set + s) (nI (stD d t D set s)))) (nI (s + 1)) := by
  have hn : d.1 ≤ 14 := hM.1
  have hm : t.1 ≤ 5 := hT.1
  have e1 : gi τ 9 = nI d.1 := hM.2.2.1
  have hp : 2 ^ d.1 ≤ 2 ^ 14 := Nat.pow_le_pow_right (by decide) hn
  have fin : ∀ (x : Nat) (v5 : Int32), fX10_findCosts_26_k k2 (saf τ 18 c) (nI set) (nI (2 ^ d.1 - 1)) (nI s) (nI x) v5 = k2 (saf τ 18 (upd c (5 * set + s) (nI x))) (nI (s + 1)) := fun x v5 => by
    unfold fX10_findCosts_26_k
    rw [ix5, if_pos (inx (show 5 * set + s < 81920 by omega) (by decide)), nI_clamp (by omega), sa_saf, nI_1]
  by_cases ha : set = 2 ^ d.1 - 1
  · rw [hv, if_pos ha, show stD d t D set s = 0 from if_pos ha]
    obtain ⟨f0, hf0⟩ : ∃ f0, KF = f0 + 1 := ⟨KF - 1, by have := KF_ge; omega⟩
    rw [hf0, fX10_findCosts_26]
    rw [if_pos (show nI set = nI (2 ^ d.1 - 1) by rw [ha])]
    rw [show (0 : Int32) = nI 0 from rfl, fin]
    exact ite_self _
  · rw [hv, if_neg ha, show stD d t D set s = baseD d t D set s from if_neg ha]
    obtain ⟨s', e2, e3⟩ := for_loop0 (fX10_findCosts_26 k2 (fX10_findCosts_26_k k2 (saf τ 18 c) (nI set) (nI (2 ^ d.1 - 1)) (nI s)) (saf τ 18 c) (nI set) (nI (2 ^ d.1 - 1)) (nI s)) (fX10_findCosts_26_k k2 (saf τ 18 c) (nI set) (nI (2 ^ d.1 - 1)) (nI s)) (fun i v => v = nI (bsN (fun i => t.2.2.2 s i && mayD d set i) (fun i => D (set ||| 2 ^ i) s) i)) d.1 (by omega)
      (fun n v _ => by rw [fX10_findCosts_26, show gi (saf τ 18 c) 9 = nI d.1 from e1, if_pos (nI_le (Nat.le_refl _) (by omega))])
      (fun n i v hi hv => by
        subst hv
        have hor := or_lt hset hi
        have hbl := bs_le (f := fun i => t.2.2.2 s i && mayD d set i) (v := fun i => D (set ||| 2 ^ i) s) i
        rw [fX10_findCosts_26, show gi (saf τ 18 c) 9 = nI d.1 from e1, if_neg (nI_ge hi (by omega)), if_neg (fun e => ha (nI_inj (by omega) (by omega) e)), show fX10_reachesOf (saf τ 18 c) (nI s) (nI i) = some (i01B (t.2.2.2 s i)) from hT.2.2.2.2 s i hs hi, mayM (τ := saf τ 18 c) (d := d) hM hset hi, pow_eq (by omega), nI_or, ix5, nI_clamp (by omega), nI_1, bsN]
        simp only [obS, i01B_0]
        cases hr : t.2.2.2 s i
        · rw [if_pos rfl]
          exact ⟨_, rfl, rfl⟩
        · rw [if_neg (show ¬ (true = false) by decide)]
          cases hy : mayD d set i
          · rw [if_pos rfl]
            exact ⟨_, rfl, rfl⟩
          · obtain ⟨c1, c2⟩ := hc (set ||| 2 ^ i) s (may_gt hy) hor hs
            rw [if_neg (show ¬ (true = false) by decide), if_pos (inx' (show 5 * (set ||| 2 ^ i) + s < 81920 by omega) (by decide)), show ga (saf τ 18 c) 18 (5 * (set ||| 2 ^ i) + s) = nI (D (set ||| 2 ^ i) s) from c1]
            rw [if_pos (show (true && true) = true from rfl)]
            by_cases cl : bsN (fun i => t.2.2.2 s i && mayD d set i) (fun i => D (set ||| 2 ^ i) s) i ≤ D (set ||| 2 ^ i) s
            · rw [if_pos (nI_le cl (by omega)), Nat.min_eq_left cl]
              exact ⟨_, rfl, rfl⟩
            · rw [if_neg (nI_ge (by omega) (by omega)), Nat.min_eq_right (by omega)]
              exact ⟨_, rfl, rfl⟩)
      (1000000 : Int32) rfl
    refine Eq.trans e3 ?_
    rw [e2, fin]
    rfl
/-- in the midst of a round: rows ahead of s are through, and of s those ahead of k -/
def RinM (fr : Nat → Bool) (P : Nat → Nat → Nat) (m : Nat) (D cs : Nat → Nat) (s k : Nat) (cc : Nat → Nat) : Prop := (∀ u, u < m → D u ≤ cc u ∧ cc u ≤ cs u) ∧ ∀ u v, u < m → v < m → v ≠ u → fr v = true → (u < s ∨ (u = s ∧ v < k)) → cc u ≤ P u v + cs v
theorem RinM_keep {fr : Nat → Bool} {P : Nat → Nat → Nat} {m : Nat} {D cs cc : Nat → Nat} {s k : Nat} (h : RinM fr P m D cs s k cc) (hq : k = s ∨ fr k = false ∨ cc s ≤ P s k + cc k) (hs : s < m) (hk : k < m) : RinM fr P m D cs s (k + 1) cc := by
  refine ⟨h.1, fun u v hu hv hne hfr hc => ?_⟩
  by_cases e : u = s ∧ v = k
  · obtain ⟨rfl, rfl⟩ := e
    have := h.1 v hv
    rcases hq with q | q | q
    · exact absurd q hne
    · rw [hfr] at q; exact absurd q (by decide)
    · omega
  · exact h.2 u v hu hv hne hfr (by omega)
theorem RinM_set {fr : Nat → Bool} {P : Nat → Nat → Nat} {m : Nat} {D cs cc : Nat → Nat} {s k : Nat} (hD : ∀ s t, s < m → t < m → t ≠ s → fr t = true → D s ≤ P s t + D t) (h : RinM fr P m D cs s k cc) (hne : k ≠ s) (hfr : fr k = true) (hl : P s k + cc k < cc s) (hs : s < m) (hk : k < m) : RinM fr P m D cs s (k + 1) (fun u => if u = s then P s k + cc k else cc u) := by
  have hk1 := h.1 k hk
  refine ⟨fun u hu => ?_, fun u v hu hv hne' hfr' hc => ?_⟩
  · have := h.1 u hu
    show D u ≤ (if u = s then P s k + cc k else cc u) ∧ (if u = s then P s k + cc k else cc u) ≤ cs u
    by_cases e : u = s
    · subst e
      have := hD u k hu hk hne hfr
      rw [if_pos rfl]; omega
    · rw [if_neg e]; exact this
  · show (if u = s then P s k + cc k else cc u) ≤ P u v + cs v
    by_cases e : u = s
    · subst e
      rw [if_pos rfl]
      by_cases ev : v = k
      · subst ev; omega
      · have := h.2 u v hu hv hne' hfr' (by omega); omega
    · rw [if_neg e]
      exact h.2 u v hu hv hne' hfr' (by omega)
theorem pairM {τ : St} {d : SD} {t : TD} (hn : d.1 ≤ 14) (hT : TM τ d.1 t) {set s : Nat} (hset : set < 2 ^ d.1) (hs : s < t.1) {c : Nat → Int32} {D cs cc : Nat → Nat} (hD : ∀ s u, s < t.1 → u < t.1 → u ≠ s → freeD t set u = true → D s ≤ t.2.2.1 s u + D u) (hb : ∀ u, u < t.1 → cs u ≤ 1000000) (h0 : RinM (freeD t set) t.2.2.1 t.1 D cs s 0 cc) (k119 : St → Int32 → Option St) (k130 : St → Int32 → Option St) (v2 v3 : Int32) : ∃ cc', fX10_findCosts_142 k119 k130 (fX10_findCosts_142_k k119 k130 (nI set) v2 v3 (nI s)) (nI set) v2 v3 (nI s) KF (saf τ 18 (rowU c set t.1 cc)) 0 = k130 (saf τ 18 (rowU c set t.1 cc')) (nI (s + 1)) ∧ RinM (freeD t set) t.2.2.1 t.1 D cs (s + 1) 0 cc' := by
  have hm : t.1 ≤ 5 := hT.1
  have e1 : gi τ 11 = nI t.1 := hT.2.1
  have hp : 2 ^ d.1 ≤ 2 ^ 14 := Nat.pow_le_pow_right (by decide) hn
  obtain ⟨s', ⟨cc', e2, e3⟩, e4⟩ := for_loop0 (fX10_findCosts_142 k119 k130 (fX10_findCosts_142_k k119 k130 (nI set) v2 v3 (nI s)) (nI set) v2 v3 (nI s)) (fX10_findCosts_142_k k119 k130 (nI set) v2 v3 (nI s)) (fun k st => ∃ cc', st = saf τ 18 (rowU c set t.1 cc') ∧ RinM (freeD t set) t.2.2.1 t.1 D cs s k cc') t.1 (by omega)
    (fun n st => by
      rintro ⟨cc', rfl, _⟩
      rw [fX10_findCosts_142, show gi (saf τ 18 (rowU c set t.1 cc')) 11 = nI t.1 from e1, if_pos (nI_le (Nat.le_refl _) (by omega))])
    (fun n k st hk => by
      rintro ⟨cc', rfl, hI⟩
      obtain ⟨p1, p2, p3⟩ := hT.2.2.2.1 s k (by omega) (by omega)
      have b1 := (hI.1 s hs).2
      have b2 := hb s hs
      have b3 := (hI.1 k hk).2
      have b4 := hb k hk
      rw [fX10_findCosts_142, show gi (saf τ 18 (rowU c set t.1 cc')) 11 = nI t.1 from e1, if_neg (nI_ge hk (by omega)), ix5, ix5, ix5, if_pos (inx (show 5 * s + k < 25 by omega) (by decide)), if_pos (inx (show 5 * set + k < 81920 by omega) (by decide)), nI_clamp (show 5 * s + k < 2 ^ 31 by omega), nI_clamp (show 5 * set + k < 2 ^ 31 by omega), nI_clamp (show 5 * set + s < 2 ^ 31 by omega), nI_1]
      by_cases e : k = s
      · rw [if_pos (by rw [e])]
        exact ⟨_, ⟨cc', rfl, RinM_keep hI (Or.inl e) hs hk⟩, rfl⟩
      · rw [if_neg (fun q => e (nI_inj (by omega) (by omega) q).symm), freeM (τ := saf τ 18 (rowU c set t.1 cc')) (n := d.1) hT hk]
        simp only [obS, i01B_0]
        cases hf : freeD t set k
        · rw [if_pos rfl]
          exact ⟨_, ⟨cc', rfl, RinM_keep hI (Or.inr (Or.inl hf)) hs hk⟩, rfl⟩
        · rw [if_neg (show ¬ (true = false) by decide), if_pos (inx' (show 5 * set + s < 81920 by omega) (by decide)), show ga (saf τ 18 (rowU c set t.1 cc')) 18 (5 * set + s) = nI (cc' s) from rowU_in hs, show ga (saf τ 18 (rowU c set t.1 cc')) 18 (5 * set + k) = nI (cc' k) from rowU_in hk, show ga (saf τ 18 (rowU c set t.1 cc')) 16 (5 * s + k) = nI (t.2.2.1 s k) from p3, nI_add]
          by_cases cl : cc' s ≤ t.2.2.1 s k + cc' k
          · rw [if_pos (nI_le cl (by omega))]
            exact ⟨_, ⟨cc', rfl, RinM_keep hI (Or.inr (Or.inr cl)) hs hk⟩, rfl⟩
          · rw [if_neg (nI_ge (by omega) (by omega)), if_pos (inx' (show 5 * set + s < 81920 by omega) (by decide)), sa_saf, rowU_upd hs]
            exact ⟨_, ⟨_, rfl, RinM_set hD hI e hf (by omega) hs hk⟩, rfl⟩)
    (saf τ 18 (rowU c set t.1 cc)) ⟨cc, rfl, h0⟩
  refine ⟨cc', ?_, e3.1, fun u v hu hv hne hfr hc => e3.2 u v hu hv hne hfr (by omega)⟩
  refine Eq.trans e4 ?_
  rw [e2]
  unfold fX10_findCosts_142_k
  rw [nI_1]
theorem roundM {τ : St} {d : SD} {t : TD} (hn : d.1 ≤ 14) (hT : TM τ d.1 t) {set : Nat} (hset : set < 2 ^ d.1) {c : Nat → Int32} {D cs : Nat → Nat} (hD : ∀ s u, s < t.1 → u < t.1 → u ≠ s → freeD t set u = true → D s ≤ t.2.2.1 s u + D u) (hb : ∀ u, u < t.1 → D u ≤ cs u ∧ cs u ≤ 1000000) (k119 : St → Int32 → Option St) (v2 : Int32) (r : Nat) : ∃ cc', fX10_findCosts_130 k119 (fX10_findCosts_130_k k119 (nI set) v2 (nI r)) (nI set) v2 (nI r) KF (saf τ 18 (rowU c set t.1 cs)) 0 = k119 (saf τ 18 (rowU c set t.1 cc')) (nI (r + 1)) ∧ RdOK (freeD t set) t.2.2.1 t.1 D cs cc' := by
  have hm : t.1 ≤ 5 := hT.1
  have e1 : gi τ 11 = nI t.1 := hT.2.1
  obtain ⟨s', ⟨cc', e2, e3⟩, e4⟩ := for_loop0 (fX10_findCosts_130 k119 (fX10_findCosts_130_k k119 (nI set) v2 (nI r)) (nI set) v2 (nI r)) (fX10_findCosts_130_k k119 (nI set) v2 (nI r)) (fun k st => ∃ cc', st = saf τ 18 (rowU c set t.1 cc') ∧ RinM (freeD t set) t.2.2.1 t.1 D cs k 0 cc') t.1 (by omega)
    (fun n st => by
      rintro ⟨cc', rfl, _⟩
      rw [fX10_findCosts_130, show gi (saf τ 18 (rowU c set t.1 cc')) 11 = nI t.1 from e1, if_pos (nI_le (Nat.le_refl _) (by omega))])
    (fun n k st hk => by
      rintro ⟨cc', rfl, hI⟩
      obtain ⟨cc2, q1, q2⟩ := pairM hn hT hset hk (c := c) hD (fun u hu => (hb u hu).2) hI k119 (fun σ130' v4_130' => fX10_findCosts_130 k119 (fX10_findCosts_130_k k119 (nI set) v2 (nI r)) (nI set) v2 (nI r) n σ130' v4_130') v2 (nI r)
      refine ⟨_, ⟨cc2, rfl, q2⟩, ?_⟩
      rw [fX10_findCosts_130, show gi (saf τ 18 (rowU c set t.1 cc')) 11 = nI t.1 from e1, if_neg (nI_ge hk (by omega))]
      exact q1)
    (saf τ 18 (rowU c set t.1 cs)) ⟨cs, rfl, fun u hu => ⟨(hb u hu).1, Nat.le_refl _⟩, fun u v hu hv hne hfr hc => by omega⟩
  refine ⟨cc', ?_, e3.1, fun u v hu hv hne hfr => e3.2 u v hu hv hne hfr (Or.inl hu)⟩
  refine Eq.trans e4 ?_
  rw [e2]
  unfold fX10_findCosts_130_k
  rw [nI_1]
theorem costsM {τ : St} {d : SD} {t : TD} {D : Nat → Nat → Nat} (hM : StM τ d) (hT : TM τ d.1 t) {set : Nat} (hset : set < 2 ^ d.1) {c : Nat → Int32} (hc : AbvOK d t D set c) : ∃ cN, fX10_findCosts (saf τ 18 c) (nI set) (nI (2 ^ d.1 - 1)) = some (saf τ 18 (rowU c set t.1 cN)) ∧ FixOK (freeD t set) t.2.2.1 t.1 (stD d t D set) cN := by
  have hn : d.1 ≤ 14 := hM.1
  have hm : t.1 ≤ 5 := hT.1
  have e1 : gi τ 11 = nI t.1 := hT.2.1
  have hP : ∀ s u, s < t.1 → u < t.1 → 1 ≤ t.2.2.1 s u := fun s u hs hu => (hT.2.2.2.1 s u (by omega) (by omega)).1
  have hp : 2 ^ d.1 ≤ 2 ^ 14 := Nat.pow_le_pow_right (by decide) hn
  obtain ⟨Ds, hDs⟩ := ex_fix (fr := freeD t set) (P := t.2.2.1) (m := t.1) (b := stD d t D set) (sgN (stD d t D set) t.1) (stD d t D set) (Nat.le_refl _) (fun _ _ => Nat.le_refl _) (fun _ _ => Or.inl rfl)
  unfold fX10_findCosts
  obtain ⟨s', e2, e3⟩ := for_loop0 (fX10_findCosts_2 (fX10_findCosts_2_k (nI set) (nI (2 ^ d.1 - 1))) (nI set) (nI (2 ^ d.1 - 1))) (fX10_findCosts_2_k (nI set) (nI (2 ^ d.1 - 1))) (fun k st => st = saf τ 18 (rowU c set k (stD d t D set))) t.1 (by omega)
    (fun n st hst => by
      subst hst
      rw [fX10_findCosts_2, show gi (saf τ 18 (rowU c set t.1 (stD d t D set))) 11 = nI t.1 from e1, if_pos (nI_le (Nat.le_refl _) (by omega))])
    (fun n k st hk hst => by
      subst hst
      refine ⟨_, rfl, ?_⟩
      have hc' : AbvOK d t D set (rowU c set k (stD d t D set)) := fun set' s a b e => by
        rw [rowU_out (by omega)]
        exact hc set' s a b e
      rw [fX10_findCosts_2, show gi (saf τ 18 (rowU c set k (stD d t D set))) 11 = nI t.1 from e1, if_neg (nI_ge hk (by omega))]
      by_cases ha : set = 2 ^ d.1 - 1
      · rw [if_pos (by rw [ha])]
        rw [laysM hM hT hset hk hc' _ 0 (by rw [if_pos ha])]
        rw [rowU_s rfl]
      · rw [if_neg (fun e => ha (nI_inj (by omega) (by omega) e))]
        rw [laysM hM hT hset hk hc' _ 1000000 (by rw [if_neg ha])]
        rw [rowU_s rfl])
    (saf τ 18 c) (by rw [rowU_0])
  rw [e3, e2]
  unfold fX10_findCosts_2_k
  obtain ⟨s2, ⟨cN, f2, f3, f4⟩, f5⟩ := for_loop0 (fX10_findCosts_119 (fX10_findCosts_119_k (nI set) (nI (2 ^ d.1 - 1))) (nI set) (nI (2 ^ d.1 - 1))) (fX10_findCosts_119_k (nI set) (nI (2 ^ d.1 - 1))) (fun r st => ∃ cc, st = saf τ 18 (rowU c set t.1 cc) ∧ (∀ u, u < t.1 → Ds u ≤ cc u ∧ cc u ≤ stD d t D set u) ∧ ∀ u, u < t.1 → rkN Ds t.1 u < r → cc u = Ds u) t.1 (by omega)
    (fun n st => by
      rintro ⟨cc, rfl, _⟩
      rw [fX10_findCosts_119, show gi (saf τ 18 (rowU c set t.1 cc)) 11 = nI t.1 from e1, if_pos (nI_le (Nat.le_refl _) (by omega))])
    (fun n r st hr => by
      rintro ⟨cc, rfl, h1, h2⟩
      obtain ⟨cc', q1, q2⟩ := roundM hn hT hset (c := c) (cs := cc) hDs.2.1 (fun u hu => ⟨(h1 u hu).1, Nat.le_trans (h1 u hu).2 stD_le⟩) (fun σ119' v3_119' => fX10_findCosts_119 (fX10_findCosts_119_k (nI set) (nI (2 ^ d.1 - 1))) (nI set) (nI (2 ^ d.1 - 1)) n σ119' v3_119') (nI (2 ^ d.1 - 1)) r
      refine ⟨_, ⟨cc', rfl, fun u hu => ⟨(q2.1 u hu).1, Nat.le_trans (q2.1 u hu).2 (h1 u hu).2⟩, rd_rank hP hDs (fun u hu => (h1 u hu).2) q2 h2⟩, ?_⟩
      rw [fX10_findCosts_119, show gi (saf τ 18 (rowU c set t.1 cc)) 11 = nI t.1 from e1, if_neg (nI_ge hr (by omega))]
      exact q1)
    (saf τ 18 (rowU c set t.1 (stD d t D set))) ⟨_, rfl, fun u hu => ⟨hDs.1 u hu, Nat.le_refl _⟩, fun u hu q => by omega⟩
  refine ⟨cN, ?_, fix_congr (fun _ _ => rfl) (fun u hu => (f4 u hu (rk_m hu)).symm) hDs⟩
  refine Eq.trans f5 ?_
  rw [f2]
  rfl
