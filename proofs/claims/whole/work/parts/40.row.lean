/-- the class reads, the reference writes what nobody sees -/
def OT (σ : St) (x : Option Int32) (y : Option (Int32 × St)) : Prop := ∃ (r : Int32) (τ' : St), x = some r ∧ y = some (r, τ') ∧ Rel σ τ'
def OTL (σ : St) (x : Option Int64) (y : Option (Int64 × St)) : Prop := ∃ (r : Int64) (τ' : St), x = some r ∧ y = some (r, τ') ∧ Rel σ τ'
theorem OT.same {σ τ : St} (h : Rel σ τ) (r : Int32) : OT σ (some r) (some (r, τ)) := ⟨r, τ, rfl, rfl, h⟩
theorem OT.ite {σ : St} {c : Prop} {i1 i2 : Decidable c} {x x' : Option Int32} {y y' : Option (Int32 × St)} (h1 : c → OT σ x y) (h2 : ¬ c → OT σ x' y') : OT σ (@_root_.ite _ c i1 x x') (@_root_.ite _ c i2 y y') := by
  by_cases h : c
  · rw [if_pos h, if_pos h]; exact h1 h
  · rw [if_neg h, if_neg h]; exact h2 h
/-- the reference's row of a rope that is only told of: place 6 of its four rope rows -/
def sc (τ : St) (F : Nat → Nat → Int32) : St := (τ.1, τ.2.1, fun k => if 3 ≤ k ∧ k ≤ 6 then F k else τ.2.2.1 k, τ.2.2.2)
def scOK (τ : St) (F : Nat → Nat → Int32) : Prop := ∀ k j, j ≠ 6 → F k j = ga τ k j
theorem sa_sc (τ : St) (F : Nat → Nat → Int32) {k : Nat} (hk : 3 ≤ k ∧ k ≤ 6) (i : Nat) (v : Int32) : sa (sc τ F) k i v = sc τ (fun k' => if k' = k then upd (F k) i v else F k') := by
  have e : ga (sc τ F) k = F k := if_pos hk
  unfold sa
  rw [e]
  unfold saf sc
  refine congrArg (fun z => (τ.1, τ.2.1, z, τ.2.2.2)) (funext fun j => ?_)
  show (if j = k then upd (F k) i v else if 3 ≤ j ∧ j ≤ 6 then F j else τ.2.2.1 j) = if 3 ≤ j ∧ j ≤ 6 then (if j = k then upd (F k) i v else F j) else τ.2.2.1 j
  by_cases h : j = k
  · subst h
    rw [if_pos rfl, if_pos hk, if_pos rfl]
  · rw [if_neg h]
    by_cases h2 : 3 ≤ j ∧ j ≤ 6
    · rw [if_pos h2, if_pos h2, if_neg h]
    · rw [if_neg h2, if_neg h2]
theorem scOK_upd {τ : St} {F : Nat → Nat → Int32} (h : scOK τ F) (k : Nat) (v : Int32) : scOK τ (fun k' => if k' = k then upd (F k) 6 v else F k') := fun k' j hj => by
  show (if k' = k then upd (F k) 6 v else F k') j = ga τ k' j
  by_cases e : k' = k
  · rw [if_pos e, pk_un hj, e]; exact h k j hj
  · rw [if_neg e]; exact h k' j hj
theorem sc_self (τ : St) : sc τ (ga τ) = τ := by
  unfold sc
  refine Prod.ext rfl (Prod.ext rfl (Prod.ext (funext fun j => ?_) rfl))
  show (if 3 ≤ j ∧ j ≤ 6 then τ.2.2.1 j else τ.2.2.1 j) = τ.2.2.1 j
  by_cases h : 3 ≤ j ∧ j ≤ 6
  · rw [if_pos h]
  · rw [if_neg h]
theorem rel_sc {σ τ : St} (h : Rel σ τ) {F : Nat → Nat → Int32} (hF : scOK τ F) : Rel σ (sc τ F) := by
  obtain ⟨⟨hD, hcr, ⟨n, hn, e1, e2, hw, hz⟩, hA⟩, hB, hC⟩ := h
  refine ⟨⟨hD, hcr, ⟨n, hn, e1, e2, fun j hj => ?_, hz⟩, hA⟩, hB, hC⟩
  obtain ⟨s, w, s1, s2, s3, s4, s5, s6, s7, s8, s9, s10, s11⟩ := hw j hj
  exact ⟨s, w, s1, s2, s3, s4, (hF 3 j (by omega)).trans s5, s6, (hF 4 j (by omega)).trans s7, s8.trans (hF 5 j (by omega)).symm, s9.trans (hF 6 j (by omega)).symm, s10, s11⟩
/-- where a new rope of a strength parts under a row of loads, some of them twice; -1: it doesn't -/
def prt (ld : Nat → Nat) (s m : Nat) : Nat → Nat → Nat → Int32
  | 0, _, _ => -1
  | d + 1, k, w => if ld k * (1 + bit m k) ≤ hdN s w then prt ld s m d (k + 1) (w + wbN s (ld k * (1 + bit m k))) else nI k
theorem partsX {σ : St} {n s : Nat} {ld : Nat → Nat} (e : gi σ 8 = nI n) (hn : n ≤ 12) (hl : ∀ j, j < n → 1 ≤ ld j ∧ ld j ≤ 50000 ∧ ga σ 16 j = nI (ld j)) (hs0 : 100 ≤ s) (hs : s ≤ 50000) : fX6_firstParting σ (nI s) = some (prt ld s 0 n 0 0) := by
  unfold fX6_firstParting
  have key : ∀ (d k w f : Nat), k + d = n → d < f → w ≤ 11 * k → fX6_firstParting_4 (fX6_firstParting_4_k σ (nI s)) σ (nI s) f (nI w) (nI k) = some (prt ld s 0 d k w) := by
    intro d
    induction d with
    | zero =>
      intro k w f h1 h2 h3
      cases f with
      | zero => omega
      | succ f => rw [fX6_firstParting_4, e, if_pos (nI_le (by omega) (by omega))]; rfl
    | succ d ih =>
      intro k w f h1 h2 h3
      cases f with
      | zero => omega
      | succ f =>
        obtain ⟨l1, l2, l3⟩ := hl k (by omega)
        have hb : bit 0 k = 0 := by unfold bit; rw [Nat.zero_div]
        have hd := hdN_le s w
        rw [fX6_firstParting_4, e, if_neg (nI_ge (show k < n by omega) (by omega)), prt, hb, Nat.mul_one]
        simp only [if_pos (inx' (show k < 12 by omega) (by decide)), nI_clamp (show k < 2 ^ 31 by omega), l3, heldDry_eq hs (show w < 100000 by omega), obS]
        by_cases c : ld k ≤ hdN s w
        · rw [if_pos (nI_le c (by omega)), if_pos c, wearBy_eq (by omega) hs (by omega)]
          have := wbN_le (show 0 < s by omega) (show ld k ≤ s by omega)
          simp only [obS, nI_add, nI_1]
          exact ih (k + 1) _ f (by omega) (by omega) (by omega)
        · rw [if_neg (nI_ge (by omega) (by omega)), if_neg c]
  exact key n 0 0 KF (by omega) (Nat.lt_of_lt_of_le (by omega) KF_ge) (by omega)
theorem partsM {τ : St} {n s m : Nat} {ld : Nat → Nat} (e : gi τ 8 = nI n) (hn : n ≤ 12) (hm : m < 2 ^ 31) (hl : ∀ j, j < n → 1 ≤ ld j ∧ ld j ≤ 50000 ∧ ga τ 7 j = nI (ld j)) (hs0 : 100 ≤ s) (hs : s ≤ 50000) : ∃ F, scOK τ F ∧ fX10_partsAt τ (nI s) (nI m) = some (prt ld s m n 0 0, sc τ F) := by
  unfold fX10_partsAt fX10_layRope
  simp only [if_pos (show ¬ ((6 : Int32) < 0 ∨ 7 ≤ (6 : Int32).toNatClampNeg) by decide), show (6 : Int32).toNatClampNeg = 6 from rfl, obS, show vp_nar .boolean (0 : Int32) = 0 from rfl]
  have h0 : sa (sa (sa (sa τ 3 6 (nI s)) 4 6 0) 5 6 0) 6 6 0 = sa (sa (sa (sa (sc τ (ga τ)) 3 6 (nI s)) 4 6 0) 5 6 0) 6 6 0 := by rw [sc_self]
  rw [h0, sa_sc _ _ (by decide), sa_sc _ _ (by decide), sa_sc _ _ (by decide), sa_sc _ _ (by decide)]
  have key : ∀ (d k w f : Nat) (F : Nat → Nat → Int32), k + d = n → d < f → w ≤ 11 * k → scOK τ F → F 3 6 = nI s → F 4 6 = nI w → F 5 6 = 0 → F 6 6 = 0 → ∃ F', scOK τ F' ∧ fX10_partsAt_9 (fX10_partsAt_9_k (nI s) (nI m)) (nI s) (nI m) f (sc τ F) (nI k) = some (prt ld s m d k w, sc τ F') := by
    intro d
    induction d with
    | zero =>
      intro k w f F h1 h2 h3 h4 h5 h6 h7 h8
      cases f with
      | zero => omega
      | succ f =>
        refine ⟨F, h4, ?_⟩
        rw [fX10_partsAt_9, show gi (sc τ F) 8 = nI n from e, if_pos (nI_le (by omega) (by omega))]
        rfl
    | succ d ih =>
      intro k w f F h1 h2 h3 h4 h5 h6 h7 h8
      cases f with
      | zero => omega
      | succ f =>
        obtain ⟨l1, l2, l3⟩ := hl k (by omega)
        have hb2 := bit_lt m k
        have hd := hdN_le s w
        generalize hL : ld k * (1 + bit m k) = L
        have hLb : L ≤ 100000 := by
          rw [← hL]
          exact Nat.le_trans (Nat.mul_le_mul l2 (show 1 + bit m k ≤ 2 by omega)) (by omega)
        have hld : ga (sc τ F) 7 k = nI (ld k) := l3
        have hpull := pullM (τ := sc τ F) (j := 6) (s := s) (w := w) (l := L) (by decide) h5 h6 (by omega) hs (by omega) hLb
        have hh : hN s w (ga (sc τ F) 5 6) (ga (sc τ F) 6 6) = hdN s w := by
          have a1 : ga (sc τ F) 5 6 = 0 := h7
          have a2 : ga (sc τ F) 6 6 = 0 := h8
          unfold hN
          rw [a1, a2, if_pos rfl, if_pos rfl]
        rw [hh] at hpull
        rw [fX10_partsAt_9, show gi (sc τ F) 8 = nI n from e, if_neg (nI_ge (show k < n by omega) (by omega)), if_pos (inx (show k < 12 by omega) (by decide)), nI_clamp (show k < 2 ^ 31 by omega), hld, bit_eq hm (by omega), show (1 : Int32) + nI (bit m k) = nI (1 + bit m k) from nI_add 1 _, pk_mul, hL, show (6 : Int32) = nI 6 from rfl, hpull, prt, hL]
        by_cases c : L ≤ hdN s w
        · rw [if_pos c, if_pos c]
          simp only [obS]
          rw [if_neg (show ¬ (1 : Int32) = 0 by decide), sa_sc _ _ (by decide), nI_1]
          have := wbN_le (show 0 < s by omega) (show L ≤ s by omega)
          exact ih (k + 1) _ f _ (by omega) (by omega) (by omega) (scOK_upd h4 4 _) h5 rfl h7 h8
        · rw [if_neg c, if_neg c]
          simp only [obS]
          rw [if_pos trivial, sa_sc _ _ (by decide)]
          exact ⟨_, scOK_upd h4 6 _, rfl⟩
  exact key n 0 0 KF _ (by omega) (Nat.lt_of_lt_of_le (by omega) KF_ge) (by omega) (scOK_upd (scOK_upd (scOK_upd (scOK_upd (fun _ _ _ => rfl) 3 _) 4 _) 5 _) 6 _) rfl rfl rfl rfl
theorem row_ld {σ τ : St} {n : Nat} (hw : ∀ j, j < n → ∃ v : Nat, 1 ≤ v ∧ v ≤ 50000 ∧ ga σ 16 j = nI v ∧ ga τ 7 j = nI v) : (∀ j, j < n → 1 ≤ (ga σ 16 j).toNatClampNeg ∧ (ga σ 16 j).toNatClampNeg ≤ 50000 ∧ ga σ 16 j = nI (ga σ 16 j).toNatClampNeg) ∧ (∀ j, j < n → 1 ≤ (ga σ 16 j).toNatClampNeg ∧ (ga σ 16 j).toNatClampNeg ≤ 50000 ∧ ga τ 7 j = nI (ga σ 16 j).toNatClampNeg) := by
  constructor <;> intro j hj <;> obtain ⟨v, a1, a2, a3, a4⟩ := hw j hj
  · rw [a3, nI_clamp (by omega)]; exact ⟨a1, a2, rfl⟩
  · rw [a3, nI_clamp (by omega)]; exact ⟨a1, a2, a4⟩
theorem e_bears {σ τ : St} (h : Rel σ τ) (a : Int32) : OT σ (fX9_bears σ a) (fX10_bears τ a) := by
  obtain ⟨⟨hD, hcr, hro, ⟨n, hn, e1, e2, hw⟩, hA⟩, hB, hC⟩ := id h
  unfold fX9_bears fX10_bears
  simp only [isStr_eq, isStrM_eq, obS, i10]
  refine OT.ite (fun _ => OT.same h _) (fun c1 => ?_)
  obtain ⟨s, rfl, l1, u1⟩ := t_nat (by decide) c1
  obtain ⟨hX, hM⟩ := row_ld hw
  obtain ⟨F, f1, f2⟩ := partsM (m := 0) e2 hn (by decide) hM (show 100 ≤ s by omega) (by omega)
  rw [partsX e1 hn hX (show 100 ≤ s by omega) (by omega), show (0 : Int32) = nI 0 from rfl, f2]
  simp only [obS]
  exact OT.same (rel_sc h f1) _
