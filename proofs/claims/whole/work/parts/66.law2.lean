/-! the cases of the law -/
set_option maxRecDepth 100000 in
set_option maxHeartbeats 4000000 in
theorem law_12 {p : Program} {l : Launch} {e : Env} {s : State} {m : MethodId} {below : List Frame} {meth : Method} {c : Code} {D : va_G} {cy : Nat → ClassId} {ad ae : Nat → Nat} {b L i cl S1 : Nat} {xs : Nat → Int32} {x3 : Int32} {aw ac bw bc : Nat} {σ τ : St} {H : Heap} {locs : List Loc} {ls : Array Slot} (S : CallFix p m c cL_law 4 s #[Value.ref b] (lawC :: uw) RL) (hX : va_X b L xs s s.heap) (hbl : b < s.heap.size) (hK : KU D cy s) (ex : x3 = nI i) (h6 : i + 6 ≤ L) (hL : L ≤ 3072) (hcl : cl + 2 ≤ 600000) (hS1 : S1 + 200000 ≤ 7302250) (hR : Rel σ τ) (hI : LawIn D cy s ad ae aw ac bw bc σ τ H locs) (hl : lv_has ls 4 [(0, .ref b), (1, .ref (ad 0)), (2, .ref (ae 0)), (3, .int x3)]) (kk : LawGo p l e s m below meth c D cy ad ae b cl S1 x3) : W p l e room_1 s m #[Value.ref b] below meth c H locs cl (S1 + Pot σ) (lw_Z below #[Value.ref b] s) (F0 m 614 ls []) := by
  have hx := S.1
  have hb := S.2.1
  have hpl := pot_le hR
  obtain ⟨hP, hD, hP2, hD2, hap, hS⟩ := hI
  have hA : ∀ q : Nat, s.heap.size ≤ q → (fun q : Nat => s.heap.size ≤ q) q := fun _ h => h
  have hbA : ¬ (fun q : Nat => s.heap.size ≤ q) b := Nat.not_le.mpr hbl
  by_cases hz : xs (x3 + 2).toNatClampNeg = 0
  · refine lv_aload_n hx hb dL_law_614 rfl (lv_at hl 1 rfl) ?_
    refine lv_aload_n hx hb dL_law_615 rfl (lv_at hl 0 rfl) ?_
    refine lv_iload_n hx hb dL_law_616 rfl (lv_at hl 3 rfl) ?_
    refine lv_iconst (v := 1) hx hb dL_law_617 (by decide) ?_
    refine lv_iadd hx hb dL_law_618 ?_
    refine va_sld hx hb hX hbl hbA hS (in6 (k := 1) ex (by decide) h6 hL) dL_law_619 ?_
    refine lv_aload_n hx hb dL_law_620 rfl (lv_at hl 0 rfl) ?_
    refine lv_iload_n hx hb dL_law_621 rfl (lv_at hl 3 rfl) ?_
    refine lv_iconst (v := 2) hx hb dL_law_622 (by decide) ?_
    refine lv_iadd hx hb dL_law_623 ?_
    refine va_sld hx hb hX hbl hbA hS (in6 (k := 2) ex (by decide) h6 hL) dL_law_624 ?_
    refine lv_if_eq (tgt := 632) hx hb dL_law_625 (by decide) (fun _ => ?_) (fun q => absurd hz q)
    refine lv_iconst (v := 0) hx hb dL_law_632 (by decide) ?_
    obtain ⟨r, σ', τ', h1, h2, hrel⟩ := e_wet hR (xs (x3 + 1).toNatClampNeg) 0 (Or.inl rfl)
    have hpot : Pot σ' = Pot σ := by unfold Pot; rw [show gn σ' = gn σ from g_wet σ (xs (x3 + 1).toNatClampNeg) 0 _ h1]
    refine t_calli (u_runV (rest := []) S (c_X9_wet l D cy ad σ (xs (x3 + 1).toNatClampNeg) 0 (r, σ') h1 aw ac H.size) iX9_wet vX9_wet q480 ⟨Nat.le_of_ble_eq_true rfl, Nat.le_of_ble_eq_true rfl⟩ hK hP hD (q0 := 0) rfl rfl rfl hl.1 (Nat.le_of_ble_eq_true rfl) dL_law_633 ⟨by show _ ≤ 600000; omega, by show _ ≤ 7302250; omega⟩) hD hP2 hap hS hA (fun aw ac H locs hP hD hP2 hap hS => ?_)
    refine lv_aload_n hx hb dL_law_636 rfl (lv_at hl 2 rfl) ?_
    refine lv_aload_n hx hb dL_law_637 rfl (lv_at hl 0 rfl) ?_
    refine lv_iload_n hx hb dL_law_638 rfl (lv_at hl 3 rfl) ?_
    refine lv_iconst (v := 1) hx hb dL_law_639 (by decide) ?_
    refine lv_iadd hx hb dL_law_640 ?_
    refine va_sld hx hb hX hbl hbA hS (in6 (k := 1) ex (by decide) h6 hL) dL_law_641 ?_
    refine lv_aload_n hx hb dL_law_642 rfl (lv_at hl 0 rfl) ?_
    refine lv_iload_n hx hb dL_law_643 rfl (lv_at hl 3 rfl) ?_
    refine lv_iconst (v := 2) hx hb dL_law_644 (by decide) ?_
    refine lv_iadd hx hb dL_law_645 ?_
    refine va_sld hx hb hX hbl hbA hS (in6 (k := 2) ex (by decide) h6 hL) dL_law_646 ?_
    refine lv_if_eq (tgt := 654) hx hb dL_law_647 (by decide) (fun _ => ?_) (fun q => absurd hz q)
    refine lv_iconst (v := 0) hx hb dL_law_654 (by decide) ?_
    refine t_calli (u_runV (rest := [.int r]) S (c_X10_wet l D cy ae τ (xs (x3 + 1).toNatClampNeg) 0 (r, τ') h2 bw bc H.size) iX10_wet vX10_wet q1223 ⟨Nat.le_of_ble_eq_true rfl, Nat.le_of_ble_eq_true rfl⟩ hK hP2 hD2 (q0 := 0) rfl rfl rfl hl.1 (Nat.le_of_ble_eq_true rfl) dL_law_655 ⟨by show _ ≤ 600000; omega, by show _ ≤ 7302250; omega⟩) hD2 hP hap.symm hS hA (fun bw bc H locs hP2 hD2 hP hap hS => ?_)
    refine lv_icmp_eq (tgt := 1609) hx hb dL_law_658 (by decide) (fun _ => ?_) (fun q => absurd rfl q)
    refine W.widen (k := cl + 2) (n := S1 + Pot σ') (by omega) (by omega) ?_
    exact kk _ _ _ _ σ' τ' _ _ ls hrel ⟨hP, hD, hP2, hD2, hap.symm, hS⟩ hl
  · refine lv_aload_n hx hb dL_law_614 rfl (lv_at hl 1 rfl) ?_
    refine lv_aload_n hx hb dL_law_615 rfl (lv_at hl 0 rfl) ?_
    refine lv_iload_n hx hb dL_law_616 rfl (lv_at hl 3 rfl) ?_
    refine lv_iconst (v := 1) hx hb dL_law_617 (by decide) ?_
    refine lv_iadd hx hb dL_law_618 ?_
    refine va_sld hx hb hX hbl hbA hS (in6 (k := 1) ex (by decide) h6 hL) dL_law_619 ?_
    refine lv_aload_n hx hb dL_law_620 rfl (lv_at hl 0 rfl) ?_
    refine lv_iload_n hx hb dL_law_621 rfl (lv_at hl 3 rfl) ?_
    refine lv_iconst (v := 2) hx hb dL_law_622 (by decide) ?_
    refine lv_iadd hx hb dL_law_623 ?_
    refine va_sld hx hb hX hbl hbA hS (in6 (k := 2) ex (by decide) h6 hL) dL_law_624 ?_
    refine lv_if_eq (tgt := 632) hx hb dL_law_625 (by decide) (fun q => absurd q hz) (fun _ => ?_)
    refine lv_iconst (v := 1) hx hb dL_law_628 (by decide) ?_
    refine lv_goto (tgt := 633) hx hb dL_law_629 (by decide) ?_
    obtain ⟨r, σ', τ', h1, h2, hrel⟩ := e_wet hR (xs (x3 + 1).toNatClampNeg) 1 (Or.inr rfl)
    have hpot : Pot σ' = Pot σ := by unfold Pot; rw [show gn σ' = gn σ from g_wet σ (xs (x3 + 1).toNatClampNeg) 1 _ h1]
    refine t_calli (u_runV (rest := []) S (c_X9_wet l D cy ad σ (xs (x3 + 1).toNatClampNeg) 1 (r, σ') h1 aw ac H.size) iX9_wet vX9_wet q480 ⟨Nat.le_of_ble_eq_true rfl, Nat.le_of_ble_eq_true rfl⟩ hK hP hD (q0 := 0) rfl rfl rfl hl.1 (Nat.le_of_ble_eq_true rfl) dL_law_633 ⟨by show _ ≤ 600000; omega, by show _ ≤ 7302250; omega⟩) hD hP2 hap hS hA (fun aw ac H locs hP hD hP2 hap hS => ?_)
    refine lv_aload_n hx hb dL_law_636 rfl (lv_at hl 2 rfl) ?_
    refine lv_aload_n hx hb dL_law_637 rfl (lv_at hl 0 rfl) ?_
    refine lv_iload_n hx hb dL_law_638 rfl (lv_at hl 3 rfl) ?_
    refine lv_iconst (v := 1) hx hb dL_law_639 (by decide) ?_
    refine lv_iadd hx hb dL_law_640 ?_
    refine va_sld hx hb hX hbl hbA hS (in6 (k := 1) ex (by decide) h6 hL) dL_law_641 ?_
    refine lv_aload_n hx hb dL_law_642 rfl (lv_at hl 0 rfl) ?_
    refine lv_iload_n hx hb dL_law_643 rfl (lv_at hl 3 rfl) ?_
    refine lv_iconst (v := 2) hx hb dL_law_644 (by decide) ?_
    refine lv_iadd hx hb dL_law_645 ?_
    refine va_sld hx hb hX hbl hbA hS (in6 (k := 2) ex (by decide) h6 hL) dL_law_646 ?_
    refine lv_if_eq (tgt := 654) hx hb dL_law_647 (by decide) (fun q => absurd q hz) (fun _ => ?_)
    refine lv_iconst (v := 1) hx hb dL_law_650 (by decide) ?_
    refine lv_goto (tgt := 655) hx hb dL_law_651 (by decide) ?_
    refine t_calli (u_runV (rest := [.int r]) S (c_X10_wet l D cy ae τ (xs (x3 + 1).toNatClampNeg) 1 (r, τ') h2 bw bc H.size) iX10_wet vX10_wet q1223 ⟨Nat.le_of_ble_eq_true rfl, Nat.le_of_ble_eq_true rfl⟩ hK hP2 hD2 (q0 := 0) rfl rfl rfl hl.1 (Nat.le_of_ble_eq_true rfl) dL_law_655 ⟨by show _ ≤ 600000; omega, by show _ ≤ 7302250; omega⟩) hD2 hP hap.symm hS hA (fun bw bc H locs hP2 hD2 hP hap hS => ?_)
    refine lv_icmp_eq (tgt := 1609) hx hb dL_law_658 (by decide) (fun _ => ?_) (fun q => absurd rfl q)
    refine W.widen (k := cl + 2) (n := S1 + Pot σ') (by omega) (by omega) ?_
    exact kk _ _ _ _ σ' τ' _ _ ls hrel ⟨hP, hD, hP2, hD2, hap.symm, hS⟩ hl
set_option maxRecDepth 100000 in
set_option maxHeartbeats 4000000 in
theorem law_13 {p : Program} {l : Launch} {e : Env} {s : State} {m : MethodId} {below : List Frame} {meth : Method} {c : Code} {D : va_G} {cy : Nat → ClassId} {ad ae : Nat → Nat} {b L i cl S1 : Nat} {xs : Nat → Int32} {x3 : Int32} {aw ac bw bc : Nat} {σ τ : St} {H : Heap} {locs : List Loc} {ls : Array Slot} (S : CallFix p m c cL_law 4 s #[Value.ref b] (lawC :: uw) RL) (hX : va_X b L xs s s.heap) (hbl : b < s.heap.size) (hK : KU D cy s) (ex : x3 = nI i) (h6 : i + 6 ≤ L) (hL : L ≤ 3072) (hcl : cl + 2 ≤ 600000) (hS1 : S1 + 200000 ≤ 7302250) (hR : Rel σ τ) (hI : LawIn D cy s ad ae aw ac bw bc σ τ H locs) (hl : lv_has ls 4 [(0, .ref b), (1, .ref (ad 0)), (2, .ref (ae 0)), (3, .int x3)]) (kk : LawGo p l e s m below meth c D cy ad ae b cl S1 x3) : W p l e room_1 s m #[Value.ref b] below meth c H locs cl (S1 + Pot σ) (lw_Z below #[Value.ref b] s) (F0 m 663 ls []) := by
  have hx := S.1
  have hb := S.2.1
  have hpl := pot_le hR
  obtain ⟨hP, hD, hP2, hD2, hap, hS⟩ := hI
  have hA : ∀ q : Nat, s.heap.size ≤ q → (fun q : Nat => s.heap.size ≤ q) q := fun _ h => h
  have hbA : ¬ (fun q : Nat => s.heap.size ≤ q) b := Nat.not_le.mpr hbl
  refine lv_aload_n hx hb dL_law_663 rfl (lv_at hl 1 rfl) ?_
  refine lv_aload_n hx hb dL_law_664 rfl (lv_at hl 0 rfl) ?_
  refine lv_iload_n hx hb dL_law_665 rfl (lv_at hl 3 rfl) ?_
  refine lv_iconst (v := 1) hx hb dL_law_666 (by decide) ?_
  refine lv_iadd hx hb dL_law_667 ?_
  refine va_sld hx hb hX hbl hbA hS (in6 (k := 1) ex (by decide) h6 hL) dL_law_668 ?_
  refine lv_aload_n hx hb dL_law_669 rfl (lv_at hl 0 rfl) ?_
  refine lv_iload_n hx hb dL_law_670 rfl (lv_at hl 3 rfl) ?_
  refine lv_iconst (v := 2) hx hb dL_law_671 (by decide) ?_
  refine lv_iadd hx hb dL_law_672 ?_
  refine va_sld hx hb hX hbl hbA hS (in6 (k := 2) ex (by decide) h6 hL) dL_law_673 ?_
  obtain ⟨r, h1, h2⟩ := e_about hR (xs (x3 + 1).toNatClampNeg) (xs (x3 + 2).toNatClampNeg)
  refine t_calli (u_runV (rest := []) S (c_X9_about l D cy ad σ (xs (x3 + 1).toNatClampNeg) (xs (x3 + 2).toNatClampNeg) r h1 aw ac H.size) iX9_about vX9_about q484 ⟨Nat.le_of_ble_eq_true rfl, Nat.le_of_ble_eq_true rfl⟩ hK hP hD (q0 := 0) rfl rfl rfl hl.1 (Nat.le_of_ble_eq_true rfl) dL_law_674 ⟨by show _ ≤ 600000; omega, by show _ ≤ 7302250; omega⟩) hD hP2 hap hS hA (fun aw ac H locs hP hD hP2 hap hS => ?_)
  refine lv_aload_n hx hb dL_law_677 rfl (lv_at hl 2 rfl) ?_
  refine lv_aload_n hx hb dL_law_678 rfl (lv_at hl 0 rfl) ?_
  refine lv_iload_n hx hb dL_law_679 rfl (lv_at hl 3 rfl) ?_
  refine lv_iconst (v := 1) hx hb dL_law_680 (by decide) ?_
  refine lv_iadd hx hb dL_law_681 ?_
  refine va_sld hx hb hX hbl hbA hS (in6 (k := 1) ex (by decide) h6 hL) dL_law_682 ?_
  refine lv_aload_n hx hb dL_law_683 rfl (lv_at hl 0 rfl) ?_
  refine lv_iload_n hx hb dL_law_684 rfl (lv_at hl 3 rfl) ?_
  refine lv_iconst (v := 2) hx hb dL_law_685 (by decide) ?_
  refine lv_iadd hx hb dL_law_686 ?_
  refine va_sld hx hb hX hbl hbA hS (in6 (k := 2) ex (by decide) h6 hL) dL_law_687 ?_
  refine t_calli (u_runV (rest := [.int r]) S (c_X10_about l D cy ae τ (xs (x3 + 1).toNatClampNeg) (xs (x3 + 2).toNatClampNeg) r h2 bw bc H.size) iX10_about vX10_about q1227 ⟨Nat.le_of_ble_eq_true rfl, Nat.le_of_ble_eq_true rfl⟩ hK hP2 hD2 (q0 := 0) rfl rfl rfl hl.1 (Nat.le_of_ble_eq_true rfl) dL_law_688 ⟨by show _ ≤ 600000; omega, by show _ ≤ 7302250; omega⟩) hD2 hP hap.symm hS hA (fun bw bc H locs hP2 hD2 hP hap hS => ?_)
  refine lv_icmp_eq (tgt := 1609) hx hb dL_law_691 (by decide) (fun _ => ?_) (fun q => absurd rfl q)
  refine W.widen (k := cl + 2) (n := S1 + Pot σ) (by omega) (by omega) ?_
  exact kk _ _ _ _ σ τ _ _ ls hR ⟨hP, hD, hP2, hD2, hap.symm, hS⟩ hl
set_option maxRecDepth 100000 in
set_option maxHeartbeats 4000000 in
theorem law_14 {p : Program} {l : Launch} {e : Env} {s : State} {m : MethodId} {below : List Frame} {meth : Method} {c : Code} {D : va_G} {cy : Nat → ClassId} {ad ae : Nat → Nat} {b L i cl S1 : Nat} {xs : Nat → Int32} {x3 : Int32} {aw ac bw bc : Nat} {σ τ : St} {H : Heap} {locs : List Loc} {ls : Array Slot} (S : CallFix p m c cL_law 4 s #[Value.ref b] (lawC :: uw) RL) (hX : va_X b L xs s s.heap) (hbl : b < s.heap.size) (hK : KU D cy s) (ex : x3 = nI i) (h6 : i + 6 ≤ L) (hL : L ≤ 3072) (hcl : cl + 2 ≤ 600000) (hS1 : S1 + 200000 ≤ 7302250) (hR : Rel σ τ) (hI : LawIn D cy s ad ae aw ac bw bc σ τ H locs) (hl : lv_has ls 4 [(0, .ref b), (1, .ref (ad 0)), (2, .ref (ae 0)), (3, .int x3)]) (kk : LawGo p l e s m below meth c D cy ad ae b cl S1 x3) : W p l e room_1 s m #[Value.ref b] below meth c H locs cl (S1 + Pot σ) (lw_Z below #[Value.ref b] s) (F0 m 696 ls []) := by
  have hx := S.1
  have hb := S.2.1
  have hpl := pot_le hR
  obtain ⟨hP, hD, hP2, hD2, hap, hS⟩ := hI
  have hA : ∀ q : Nat, s.heap.size ≤ q → (fun q : Nat => s.heap.size ≤ q) q := fun _ h => h
  have hbA : ¬ (fun q : Nat => s.heap.size ≤ q) b := Nat.not_le.mpr hbl
  refine lv_aload_n hx hb dL_law_696 rfl (lv_at hl 1 rfl) ?_
  refine lv_aload_n hx hb dL_law_697 rfl (lv_at hl 0 rfl) ?_
  refine lv_iload_n hx hb dL_law_698 rfl (lv_at hl 3 rfl) ?_
  refine lv_iconst (v := 1) hx hb dL_law_699 (by decide) ?_
  refine lv_iadd hx hb dL_law_700 ?_
  refine va_sld hx hb hX hbl hbA hS (in6 (k := 1) ex (by decide) h6 hL) dL_law_701 ?_
  refine lv_aload_n hx hb dL_law_702 rfl (lv_at hl 0 rfl) ?_
  refine lv_iload_n hx hb dL_law_703 rfl (lv_at hl 3 rfl) ?_
  refine lv_iconst (v := 2) hx hb dL_law_704 (by decide) ?_
  refine lv_iadd hx hb dL_law_705 ?_
  refine va_sld hx hb hX hbl hbA hS (in6 (k := 2) ex (by decide) h6 hL) dL_law_706 ?_
  obtain ⟨r, σ', τ', h1, h2, hrel⟩ := e_pull hR (xs (x3 + 1).toNatClampNeg) (xs (x3 + 2).toNatClampNeg)
  have hpot : Pot σ' = Pot σ := by unfold Pot; rw [show gn σ' = gn σ from g_pull σ (xs (x3 + 1).toNatClampNeg) (xs (x3 + 2).toNatClampNeg) _ h1]
  refine t_calli (u_runV (rest := []) S (c_X9_pull l D cy ad σ (xs (x3 + 1).toNatClampNeg) (xs (x3 + 2).toNatClampNeg) (r, σ') h1 aw ac H.size) iX9_pull vX9_pull q492 ⟨Nat.le_of_ble_eq_true rfl, Nat.le_of_ble_eq_true rfl⟩ hK hP hD (q0 := 0) rfl rfl rfl hl.1 (Nat.le_of_ble_eq_true rfl) dL_law_707 ⟨by show _ ≤ 600000; omega, by show _ ≤ 7302250; omega⟩) hD hP2 hap hS hA (fun aw ac H locs hP hD hP2 hap hS => ?_)
  refine lv_aload_n hx hb dL_law_710 rfl (lv_at hl 2 rfl) ?_
  refine lv_aload_n hx hb dL_law_711 rfl (lv_at hl 0 rfl) ?_
  refine lv_iload_n hx hb dL_law_712 rfl (lv_at hl 3 rfl) ?_
  refine lv_iconst (v := 1) hx hb dL_law_713 (by decide) ?_
  refine lv_iadd hx hb dL_law_714 ?_
  refine va_sld hx hb hX hbl hbA hS (in6 (k := 1) ex (by decide) h6 hL) dL_law_715 ?_
  refine lv_aload_n hx hb dL_law_716 rfl (lv_at hl 0 rfl) ?_
  refine lv_iload_n hx hb dL_law_717 rfl (lv_at hl 3 rfl) ?_
  refine lv_iconst (v := 2) hx hb dL_law_718 (by decide) ?_
  refine lv_iadd hx hb dL_law_719 ?_
  refine va_sld hx hb hX hbl hbA hS (in6 (k := 2) ex (by decide) h6 hL) dL_law_720 ?_
  refine t_calli (u_runV (rest := [.int r]) S (c_X10_pull l D cy ae τ (xs (x3 + 1).toNatClampNeg) (xs (x3 + 2).toNatClampNeg) (r, τ') h2 bw bc H.size) iX10_pull vX10_pull q1239 ⟨Nat.le_of_ble_eq_true rfl, Nat.le_of_ble_eq_true rfl⟩ hK hP2 hD2 (q0 := 0) rfl rfl rfl hl.1 (Nat.le_of_ble_eq_true rfl) dL_law_721 ⟨by show _ ≤ 600000; omega, by show _ ≤ 7302250; omega⟩) hD2 hP hap.symm hS hA (fun bw bc H locs hP2 hD2 hP hap hS => ?_)
  refine lv_icmp_eq (tgt := 1609) hx hb dL_law_724 (by decide) (fun _ => ?_) (fun q => absurd rfl q)
  refine W.widen (k := cl + 2) (n := S1 + Pot σ') (by omega) (by omega) ?_
  exact kk _ _ _ _ σ' τ' _ _ ls hrel ⟨hP, hD, hP2, hD2, hap.symm, hS⟩ hl
set_option maxRecDepth 100000 in
set_option maxHeartbeats 4000000 in
theorem law_15 {p : Program} {l : Launch} {e : Env} {s : State} {m : MethodId} {below : List Frame} {meth : Method} {c : Code} {D : va_G} {cy : Nat → ClassId} {ad ae : Nat → Nat} {b L i cl S1 : Nat} {xs : Nat → Int32} {x3 : Int32} {aw ac bw bc : Nat} {σ τ : St} {H : Heap} {locs : List Loc} {ls : Array Slot} (S : CallFix p m c cL_law 4 s #[Value.ref b] (lawC :: uw) RL) (hX : va_X b L xs s s.heap) (hbl : b < s.heap.size) (hK : KU D cy s) (ex : x3 = nI i) (h6 : i + 6 ≤ L) (hL : L ≤ 3072) (hcl : cl + 2 ≤ 600000) (hS1 : S1 + 200000 ≤ 7302250) (hR : Rel σ τ) (hI : LawIn D cy s ad ae aw ac bw bc σ τ H locs) (hl : lv_has ls 4 [(0, .ref b), (1, .ref (ad 0)), (2, .ref (ae 0)), (3, .int x3)]) (kk : LawGo p l e s m below meth c D cy ad ae b cl S1 x3) : W p l e room_1 s m #[Value.ref b] below meth c H locs cl (S1 + Pot σ) (lw_Z below #[Value.ref b] s) (F0 m 729 ls []) := by
  have hx := S.1
  have hb := S.2.1
  have hpl := pot_le hR
  obtain ⟨hP, hD, hP2, hD2, hap, hS⟩ := hI
  have hA : ∀ q : Nat, s.heap.size ≤ q → (fun q : Nat => s.heap.size ≤ q) q := fun _ h => h
  have hbA : ¬ (fun q : Nat => s.heap.size ≤ q) b := Nat.not_le.mpr hbl
  refine lv_aload_n hx hb dL_law_729 rfl (lv_at hl 1 rfl) ?_
  refine lv_aload_n hx hb dL_law_730 rfl (lv_at hl 0 rfl) ?_
  refine lv_iload_n hx hb dL_law_731 rfl (lv_at hl 3 rfl) ?_
  refine lv_iconst (v := 1) hx hb dL_law_732 (by decide) ?_
  refine lv_iadd hx hb dL_law_733 ?_
  refine va_sld hx hb hX hbl hbA hS (in6 (k := 1) ex (by decide) h6 hL) dL_law_734 ?_
  obtain ⟨r, σ', τ', h1, h2, hrel⟩ := e_load hR (xs (x3 + 1).toNatClampNeg)
  have hpot : Pot σ' = Pot σ := by unfold Pot; rw [show gn σ' = gn σ from g_load σ (xs (x3 + 1).toNatClampNeg) _ h1]
  refine t_calli (u_runV (rest := []) S (c_X9_load l D cy ad σ (xs (x3 + 1).toNatClampNeg) (r, σ') h1 aw ac H.size) iX9_load vX9_load q496 ⟨Nat.le_of_ble_eq_true rfl, Nat.le_of_ble_eq_true rfl⟩ hK hP hD (q0 := 0) rfl rfl rfl hl.1 (Nat.le_of_ble_eq_true rfl) dL_law_735 ⟨by show _ ≤ 600000; omega, by show _ ≤ 7302250; omega⟩) hD hP2 hap hS hA (fun aw ac H locs hP hD hP2 hap hS => ?_)
  refine lv_aload_n hx hb dL_law_738 rfl (lv_at hl 2 rfl) ?_
  refine lv_aload_n hx hb dL_law_739 rfl (lv_at hl 0 rfl) ?_
  refine lv_iload_n hx hb dL_law_740 rfl (lv_at hl 3 rfl) ?_
  refine lv_iconst (v := 1) hx hb dL_law_741 (by decide) ?_
  refine lv_iadd hx hb dL_law_742 ?_
  refine va_sld hx hb hX hbl hbA hS (in6 (k := 1) ex (by decide) h6 hL) dL_law_743 ?_
  refine t_calli (u_runV (rest := [.int r]) S (c_X10_load l D cy ae τ (xs (x3 + 1).toNatClampNeg) (r, τ') h2 bw bc H.size) iX10_load vX10_load q1243 ⟨Nat.le_of_ble_eq_true rfl, Nat.le_of_ble_eq_true rfl⟩ hK hP2 hD2 (q0 := 0) rfl rfl rfl hl.1 (Nat.le_of_ble_eq_true rfl) dL_law_744 ⟨by show _ ≤ 600000; omega, by show _ ≤ 7302250; omega⟩) hD2 hP hap.symm hS hA (fun bw bc H locs hP2 hD2 hP hap hS => ?_)
  refine lv_icmp_eq (tgt := 1609) hx hb dL_law_747 (by decide) (fun _ => ?_) (fun q => absurd rfl q)
  refine W.widen (k := cl + 2) (n := S1 + Pot σ') (by omega) (by omega) ?_
  exact kk _ _ _ _ σ' τ' _ _ ls hrel ⟨hP, hD, hP2, hD2, hap.symm, hS⟩ hl
set_option maxRecDepth 100000 in
set_option maxHeartbeats 4000000 in
theorem law_16 {p : Program} {l : Launch} {e : Env} {s : State} {m : MethodId} {below : List Frame} {meth : Method} {c : Code} {D : va_G} {cy : Nat → ClassId} {ad ae : Nat → Nat} {b L i cl S1 : Nat} {xs : Nat → Int32} {x3 : Int32} {aw ac bw bc : Nat} {σ τ : St} {H : Heap} {locs : List Loc} {ls : Array Slot} (S : CallFix p m c cL_law 4 s #[Value.ref b] (lawC :: uw) RL) (hX : va_X b L xs s s.heap) (hbl : b < s.heap.size) (hK : KU D cy s) (ex : x3 = nI i) (h6 : i + 6 ≤ L) (hL : L ≤ 3072) (hcl : cl + 2 ≤ 600000) (hS1 : S1 + 200000 ≤ 7302250) (hR : Rel σ τ) (hI : LawIn D cy s ad ae aw ac bw bc σ τ H locs) (hl : lv_has ls 4 [(0, .ref b), (1, .ref (ad 0)), (2, .ref (ae 0)), (3, .int x3)]) (kk : LawGo p l e s m below meth c D cy ad ae b cl S1 x3) : W p l e room_1 s m #[Value.ref b] below meth c H locs cl (S1 + Pot σ) (lw_Z below #[Value.ref b] s) (F0 m 752 ls []) := by
  have hx := S.1
  have hb := S.2.1
  have hpl := pot_le hR
  obtain ⟨hP, hD, hP2, hD2, hap, hS⟩ := hI
  have hA : ∀ q : Nat, s.heap.size ≤ q → (fun q : Nat => s.heap.size ≤ q) q := fun _ h => h
  have hbA : ¬ (fun q : Nat => s.heap.size ≤ q) b := Nat.not_le.mpr hbl
  refine lv_aload_n hx hb dL_law_752 rfl (lv_at hl 1 rfl) ?_
  obtain ⟨r, σ', τ', h1, h2, hrel⟩ := e_clear hR
  have hpot : Pot σ' = Pot σ := by unfold Pot; rw [show gn σ' = gn σ from g_clear σ _ h1]
  refine t_calli (u_runV (rest := []) S (c_X9_clear l D cy ad σ (r, σ') h1 aw ac H.size) iX9_clear vX9_clear q504 ⟨Nat.le_of_ble_eq_true rfl, Nat.le_of_ble_eq_true rfl⟩ hK hP hD (q0 := 0) rfl rfl rfl hl.1 (Nat.le_of_ble_eq_true rfl) dL_law_753 ⟨by show _ ≤ 600000; omega, by show _ ≤ 7302250; omega⟩) hD hP2 hap hS hA (fun aw ac H locs hP hD hP2 hap hS => ?_)
  refine lv_aload_n hx hb dL_law_756 rfl (lv_at hl 2 rfl) ?_
  refine t_calli (u_runV (rest := [.int r]) S (c_X10_clear l D cy ae τ (r, τ') h2 bw bc H.size) iX10_clear vX10_clear q1247 ⟨Nat.le_of_ble_eq_true rfl, Nat.le_of_ble_eq_true rfl⟩ hK hP2 hD2 (q0 := 0) rfl rfl rfl hl.1 (Nat.le_of_ble_eq_true rfl) dL_law_757 ⟨by show _ ≤ 600000; omega, by show _ ≤ 7302250; omega⟩) hD2 hP hap.symm hS hA (fun bw bc H locs hP2 hD2 hP hap hS => ?_)
  refine lv_icmp_eq (tgt := 1609) hx hb dL_law_760 (by decide) (fun _ => ?_) (fun q => absurd rfl q)
  refine W.widen (k := cl + 2) (n := S1 + Pot σ') (by omega) (by omega) ?_
  exact kk _ _ _ _ σ' τ' _ _ ls hrel ⟨hP, hD, hP2, hD2, hap.symm, hS⟩ hl
set_option maxRecDepth 100000 in
set_option maxHeartbeats 4000000 in
theorem law_17 {p : Program} {l : Launch} {e : Env} {s : State} {m : MethodId} {below : List Frame} {meth : Method} {c : Code} {D : va_G} {cy : Nat → ClassId} {ad ae : Nat → Nat} {b L i cl S1 : Nat} {xs : Nat → Int32} {x3 : Int32} {aw ac bw bc : Nat} {σ τ : St} {H : Heap} {locs : List Loc} {ls : Array Slot} (S : CallFix p m c cL_law 4 s #[Value.ref b] (lawC :: uw) RL) (hX : va_X b L xs s s.heap) (hbl : b < s.heap.size) (hK : KU D cy s) (ex : x3 = nI i) (h6 : i + 6 ≤ L) (hL : L ≤ 3072) (hcl : cl + 2 ≤ 600000) (hS1 : S1 + 200000 ≤ 7302250) (hR : Rel σ τ) (hI : LawIn D cy s ad ae aw ac bw bc σ τ H locs) (hl : lv_has ls 4 [(0, .ref b), (1, .ref (ad 0)), (2, .ref (ae 0)), (3, .int x3)]) (kk : LawGo p l e s m below meth c D cy ad ae b cl S1 x3) : W p l e room_1 s m #[Value.ref b] below meth c H locs cl (S1 + Pot σ) (lw_Z below #[Value.ref b] s) (F0 m 765 ls []) := by
  have hx := S.1
  have hb := S.2.1
  have hpl := pot_le hR
  obtain ⟨hP, hD, hP2, hD2, hap, hS⟩ := hI
  have hA : ∀ q : Nat, s.heap.size ≤ q → (fun q : Nat => s.heap.size ≤ q) q := fun _ h => h
  have hbA : ¬ (fun q : Nat => s.heap.size ≤ q) b := Nat.not_le.mpr hbl
  refine lv_aload_n hx hb dL_law_765 rfl (lv_at hl 1 rfl) ?_
  refine lv_aload_n hx hb dL_law_766 rfl (lv_at hl 0 rfl) ?_
  refine lv_iload_n hx hb dL_law_767 rfl (lv_at hl 3 rfl) ?_
  refine lv_iconst (v := 1) hx hb dL_law_768 (by decide) ?_
  refine lv_iadd hx hb dL_law_769 ?_
  refine va_sld hx hb hX hbl hbA hS (in6 (k := 1) ex (by decide) h6 hL) dL_law_770 ?_
  obtain ⟨r, τ', h1, h2, hrel⟩ := e_bears hR (xs (x3 + 1).toNatClampNeg)
  refine t_calli (u_runV (rest := []) S (c_X9_bears l D cy ad σ (xs (x3 + 1).toNatClampNeg) r h1 aw ac H.size) iX9_bears vX9_bears q508 ⟨Nat.le_of_ble_eq_true rfl, Nat.le_of_ble_eq_true rfl⟩ hK hP hD (q0 := 0) rfl rfl rfl hl.1 (Nat.le_of_ble_eq_true rfl) dL_law_771 ⟨by show _ ≤ 600000; omega, by show _ ≤ 7302250; omega⟩) hD hP2 hap hS hA (fun aw ac H locs hP hD hP2 hap hS => ?_)
  refine lv_aload_n hx hb dL_law_774 rfl (lv_at hl 2 rfl) ?_
  refine lv_aload_n hx hb dL_law_775 rfl (lv_at hl 0 rfl) ?_
  refine lv_iload_n hx hb dL_law_776 rfl (lv_at hl 3 rfl) ?_
  refine lv_iconst (v := 1) hx hb dL_law_777 (by decide) ?_
  refine lv_iadd hx hb dL_law_778 ?_
  refine va_sld hx hb hX hbl hbA hS (in6 (k := 1) ex (by decide) h6 hL) dL_law_779 ?_
  refine t_calli (u_runV (rest := [.int r]) S (c_X10_bears l D cy ae τ (xs (x3 + 1).toNatClampNeg) (r, τ') h2 bw bc H.size) iX10_bears vX10_bears q1251 ⟨Nat.le_of_ble_eq_true rfl, Nat.le_of_ble_eq_true rfl⟩ hK hP2 hD2 (q0 := 0) rfl rfl rfl hl.1 (Nat.le_of_ble_eq_true rfl) dL_law_780 ⟨by show _ ≤ 600000; omega, by show _ ≤ 7302250; omega⟩) hD2 hP hap.symm hS hA (fun bw bc H locs hP2 hD2 hP hap hS => ?_)
  refine lv_icmp_eq (tgt := 1609) hx hb dL_law_783 (by decide) (fun _ => ?_) (fun q => absurd rfl q)
  refine W.widen (k := cl + 2) (n := S1 + Pot σ) (by omega) (by omega) ?_
  exact kk _ _ _ _ σ τ' _ _ ls hrel ⟨hP, hD, hP2, hD2, hap.symm, hS⟩ hl
set_option maxRecDepth 100000 in
set_option maxHeartbeats 4000000 in
theorem law_18 {p : Program} {l : Launch} {e : Env} {s : State} {m : MethodId} {below : List Frame} {meth : Method} {c : Code} {D : va_G} {cy : Nat → ClassId} {ad ae : Nat → Nat} {b L i cl S1 : Nat} {xs : Nat → Int32} {x3 : Int32} {aw ac bw bc : Nat} {σ τ : St} {H : Heap} {locs : List Loc} {ls : Array Slot} (S : CallFix p m c cL_law 4 s #[Value.ref b] (lawC :: uw) RL) (hX : va_X b L xs s s.heap) (hbl : b < s.heap.size) (hK : KU D cy s) (ex : x3 = nI i) (h6 : i + 6 ≤ L) (hL : L ≤ 3072) (hcl : cl + 2 ≤ 600000) (hS1 : S1 + 200000 ≤ 7302250) (hR : Rel σ τ) (hI : LawIn D cy s ad ae aw ac bw bc σ τ H locs) (hl : lv_has ls 4 [(0, .ref b), (1, .ref (ad 0)), (2, .ref (ae 0)), (3, .int x3)]) (kk : LawGo p l e s m below meth c D cy ad ae b cl S1 x3) : W p l e room_1 s m #[Value.ref b] below meth c H locs cl (S1 + Pot σ) (lw_Z below #[Value.ref b] s) (F0 m 788 ls []) := by
  have hx := S.1
  have hb := S.2.1
  have hpl := pot_le hR
  obtain ⟨hP, hD, hP2, hD2, hap, hS⟩ := hI
  have hA : ∀ q : Nat, s.heap.size ≤ q → (fun q : Nat => s.heap.size ≤ q) q := fun _ h => h
  have hbA : ¬ (fun q : Nat => s.heap.size ≤ q) b := Nat.not_le.mpr hbl
  refine lv_aload_n hx hb dL_law_788 rfl (lv_at hl 1 rfl) ?_
  refine lv_aload_n hx hb dL_law_789 rfl (lv_at hl 0 rfl) ?_
  refine lv_iload_n hx hb dL_law_790 rfl (lv_at hl 3 rfl) ?_
  refine lv_iconst (v := 1) hx hb dL_law_791 (by decide) ?_
  refine lv_iadd hx hb dL_law_792 ?_
  refine va_sld hx hb hX hbl hbA hS (in6 (k := 1) ex (by decide) h6 hL) dL_law_793 ?_
  refine lv_aload_n hx hb dL_law_794 rfl (lv_at hl 0 rfl) ?_
  refine lv_iload_n hx hb dL_law_795 rfl (lv_at hl 3 rfl) ?_
  refine lv_iconst (v := 2) hx hb dL_law_796 (by decide) ?_
  refine lv_iadd hx hb dL_law_797 ?_
  refine va_sld hx hb hX hbl hbA hS (in6 (k := 2) ex (by decide) h6 hL) dL_law_798 ?_
  obtain ⟨r, τ', h1, h2, hrel⟩ := e_blamed hR (xs (x3 + 1).toNatClampNeg) (xs (x3 + 2).toNatClampNeg)
  refine t_calli (u_runV (rest := []) S (c_X9_blamed l D cy ad σ (xs (x3 + 1).toNatClampNeg) (xs (x3 + 2).toNatClampNeg) r h1 aw ac H.size) iX9_blamed vX9_blamed q518 ⟨Nat.le_of_ble_eq_true rfl, Nat.le_of_ble_eq_true rfl⟩ hK hP hD (q0 := 0) rfl rfl rfl hl.1 (Nat.le_of_ble_eq_true rfl) dL_law_799 ⟨by show _ ≤ 600000; omega, by show _ ≤ 7302250; omega⟩) hD hP2 hap hS hA (fun aw ac H locs hP hD hP2 hap hS => ?_)
  refine lv_aload_n hx hb dL_law_802 rfl (lv_at hl 2 rfl) ?_
  refine lv_aload_n hx hb dL_law_803 rfl (lv_at hl 0 rfl) ?_
  refine lv_iload_n hx hb dL_law_804 rfl (lv_at hl 3 rfl) ?_
  refine lv_iconst (v := 1) hx hb dL_law_805 (by decide) ?_
  refine lv_iadd hx hb dL_law_806 ?_
  refine va_sld hx hb hX hbl hbA hS (in6 (k := 1) ex (by decide) h6 hL) dL_law_807 ?_
  refine lv_aload_n hx hb dL_law_808 rfl (lv_at hl 0 rfl) ?_
  refine lv_iload_n hx hb dL_law_809 rfl (lv_at hl 3 rfl) ?_
  refine lv_iconst (v := 2) hx hb dL_law_810 (by decide) ?_
  refine lv_iadd hx hb dL_law_811 ?_
  refine va_sld hx hb hX hbl hbA hS (in6 (k := 2) ex (by decide) h6 hL) dL_law_812 ?_
  refine t_calli (u_runV (rest := [.int r]) S (c_X10_blamed l D cy ae τ (xs (x3 + 1).toNatClampNeg) (xs (x3 + 2).toNatClampNeg) (r, τ') h2 bw bc H.size) iX10_blamed vX10_blamed q1259 ⟨Nat.le_of_ble_eq_true rfl, Nat.le_of_ble_eq_true rfl⟩ hK hP2 hD2 (q0 := 0) rfl rfl rfl hl.1 (Nat.le_of_ble_eq_true rfl) dL_law_813 ⟨by show _ ≤ 600000; omega, by show _ ≤ 7302250; omega⟩) hD2 hP hap.symm hS hA (fun bw bc H locs hP2 hD2 hP hap hS => ?_)
  refine lv_icmp_eq (tgt := 1609) hx hb dL_law_816 (by decide) (fun _ => ?_) (fun q => absurd rfl q)
  refine W.widen (k := cl + 2) (n := S1 + Pot σ) (by omega) (by omega) ?_
  exact kk _ _ _ _ σ τ' _ _ ls hrel ⟨hP, hD, hP2, hD2, hap.symm, hS⟩ hl
set_option maxRecDepth 100000 in
set_option maxHeartbeats 4000000 in
theorem law_19 {p : Program} {l : Launch} {e : Env} {s : State} {m : MethodId} {below : List Frame} {meth : Method} {c : Code} {D : va_G} {cy : Nat → ClassId} {ad ae : Nat → Nat} {b L i cl S1 : Nat} {xs : Nat → Int32} {x3 : Int32} {aw ac bw bc : Nat} {σ τ : St} {H : Heap} {locs : List Loc} {ls : Array Slot} (S : CallFix p m c cL_law 4 s #[Value.ref b] (lawC :: uw) RL) (hX : va_X b L xs s s.heap) (hbl : b < s.heap.size) (hK : KU D cy s) (ex : x3 = nI i) (h6 : i + 6 ≤ L) (hL : L ≤ 3072) (hcl : cl + 2 ≤ 600000) (hS1 : S1 + 200000 ≤ 7302250) (hR : Rel σ τ) (hI : LawIn D cy s ad ae aw ac bw bc σ τ H locs) (hl : lv_has ls 4 [(0, .ref b), (1, .ref (ad 0)), (2, .ref (ae 0)), (3, .int x3)]) (kk : LawGo p l e s m below meth c D cy ad ae b cl S1 x3) : W p l e room_1 s m #[Value.ref b] below meth c H locs cl (S1 + Pot σ) (lw_Z below #[Value.ref b] s) (F0 m 821 ls []) := by
  have hx := S.1
  have hb := S.2.1
  have hpl := pot_le hR
  obtain ⟨hP, hD, hP2, hD2, hap, hS⟩ := hI
  have hA : ∀ q : Nat, s.heap.size ≤ q → (fun q : Nat => s.heap.size ≤ q) q := fun _ h => h
  have hbA : ¬ (fun q : Nat => s.heap.size ≤ q) b := Nat.not_le.mpr hbl
  refine lv_aload_n hx hb dL_law_821 rfl (lv_at hl 1 rfl) ?_
  refine lv_aload_n hx hb dL_law_822 rfl (lv_at hl 0 rfl) ?_
  refine lv_iload_n hx hb dL_law_823 rfl (lv_at hl 3 rfl) ?_
  refine lv_iconst (v := 1) hx hb dL_law_824 (by decide) ?_
  refine lv_iadd hx hb dL_law_825 ?_
  refine va_sld hx hb hX hbl hbA hS (in6 (k := 1) ex (by decide) h6 hL) dL_law_826 ?_
  refine lv_aload_n hx hb dL_law_827 rfl (lv_at hl 0 rfl) ?_
  refine lv_iload_n hx hb dL_law_828 rfl (lv_at hl 3 rfl) ?_
  refine lv_iconst (v := 2) hx hb dL_law_829 (by decide) ?_
  refine lv_iadd hx hb dL_law_830 ?_
  refine va_sld hx hb hX hbl hbA hS (in6 (k := 2) ex (by decide) h6 hL) dL_law_831 ?_
  refine lv_aload_n hx hb dL_law_832 rfl (lv_at hl 0 rfl) ?_
  refine lv_iload_n hx hb dL_law_833 rfl (lv_at hl 3 rfl) ?_
  refine lv_iconst (v := 3) hx hb dL_law_834 (by decide) ?_
  refine lv_iadd hx hb dL_law_835 ?_
  refine va_sld hx hb hX hbl hbA hS (in6 (k := 3) ex (by decide) h6 hL) dL_law_836 ?_
  refine lv_aload_n hx hb dL_law_837 rfl (lv_at hl 0 rfl) ?_
  refine lv_iload_n hx hb dL_law_838 rfl (lv_at hl 3 rfl) ?_
  refine lv_iconst (v := 4) hx hb dL_law_839 (by decide) ?_
  refine lv_iadd hx hb dL_law_840 ?_
  refine va_sld hx hb hX hbl hbA hS (in6 (k := 4) ex (by decide) h6 hL) dL_law_841 ?_
  obtain ⟨r, σ', τ', h1, h2, hrel⟩ := e_stone hR (xs (x3 + 1).toNatClampNeg) (xs (x3 + 2).toNatClampNeg) (xs (x3 + 3).toNatClampNeg) (xs (x3 + 4).toNatClampNeg)
  have hpot : Pot σ' = Pot σ := by unfold Pot; rw [show gn σ' = gn σ from g_stone σ (xs (x3 + 1).toNatClampNeg) (xs (x3 + 2).toNatClampNeg) (xs (x3 + 3).toNatClampNeg) (xs (x3 + 4).toNatClampNeg) _ h1]
  refine t_calli (u_runV (rest := []) S (c_X9_stone l D cy ad σ (xs (x3 + 1).toNatClampNeg) (xs (x3 + 2).toNatClampNeg) (xs (x3 + 3).toNatClampNeg) (xs (x3 + 4).toNatClampNeg) (r, σ') h1 aw ac H.size) iX9_stone vX9_stone q533 ⟨Nat.le_of_ble_eq_true rfl, Nat.le_of_ble_eq_true rfl⟩ hK hP hD (q0 := 0) rfl rfl rfl hl.1 (Nat.le_of_ble_eq_true rfl) dL_law_842 ⟨by show _ ≤ 600000; omega, by show _ ≤ 7302250; omega⟩) hD hP2 hap hS hA (fun aw ac H locs hP hD hP2 hap hS => ?_)
  refine lv_aload_n hx hb dL_law_845 rfl (lv_at hl 2 rfl) ?_
  refine lv_aload_n hx hb dL_law_846 rfl (lv_at hl 0 rfl) ?_
  refine lv_iload_n hx hb dL_law_847 rfl (lv_at hl 3 rfl) ?_
  refine lv_iconst (v := 1) hx hb dL_law_848 (by decide) ?_
  refine lv_iadd hx hb dL_law_849 ?_
  refine va_sld hx hb hX hbl hbA hS (in6 (k := 1) ex (by decide) h6 hL) dL_law_850 ?_
  refine lv_aload_n hx hb dL_law_851 rfl (lv_at hl 0 rfl) ?_
  refine lv_iload_n hx hb dL_law_852 rfl (lv_at hl 3 rfl) ?_
  refine lv_iconst (v := 2) hx hb dL_law_853 (by decide) ?_
  refine lv_iadd hx hb dL_law_854 ?_
  refine va_sld hx hb hX hbl hbA hS (in6 (k := 2) ex (by decide) h6 hL) dL_law_855 ?_
  refine lv_aload_n hx hb dL_law_856 rfl (lv_at hl 0 rfl) ?_
  refine lv_iload_n hx hb dL_law_857 rfl (lv_at hl 3 rfl) ?_
  refine lv_iconst (v := 3) hx hb dL_law_858 (by decide) ?_
  refine lv_iadd hx hb dL_law_859 ?_
  refine va_sld hx hb hX hbl hbA hS (in6 (k := 3) ex (by decide) h6 hL) dL_law_860 ?_
  refine lv_aload_n hx hb dL_law_861 rfl (lv_at hl 0 rfl) ?_
  refine lv_iload_n hx hb dL_law_862 rfl (lv_at hl 3 rfl) ?_
  refine lv_iconst (v := 4) hx hb dL_law_863 (by decide) ?_
  refine lv_iadd hx hb dL_law_864 ?_
  refine va_sld hx hb hX hbl hbA hS (in6 (k := 4) ex (by decide) h6 hL) dL_law_865 ?_
  refine t_calli (u_runV (rest := [.int r]) S (c_X10_stone l D cy ae τ (xs (x3 + 1).toNatClampNeg) (xs (x3 + 2).toNatClampNeg) (xs (x3 + 3).toNatClampNeg) (xs (x3 + 4).toNatClampNeg) (r, τ') h2 bw bc H.size) iX10_stone vX10_stone q1263 ⟨Nat.le_of_ble_eq_true rfl, Nat.le_of_ble_eq_true rfl⟩ hK hP2 hD2 (q0 := 0) rfl rfl rfl hl.1 (Nat.le_of_ble_eq_true rfl) dL_law_866 ⟨by show _ ≤ 600000; omega, by show _ ≤ 7302250; omega⟩) hD2 hP hap.symm hS hA (fun bw bc H locs hP2 hD2 hP hap hS => ?_)
  refine lv_icmp_eq (tgt := 1609) hx hb dL_law_869 (by decide) (fun _ => ?_) (fun q => absurd rfl q)
  refine W.widen (k := cl + 2) (n := S1 + Pot σ') (by omega) (by omega) ?_
  exact kk _ _ _ _ σ' τ' _ _ ls hrel ⟨hP, hD, hP2, hD2, hap.symm, hS⟩ hl
set_option maxRecDepth 100000 in
set_option maxHeartbeats 4000000 in
theorem law_20 {p : Program} {l : Launch} {e : Env} {s : State} {m : MethodId} {below : List Frame} {meth : Method} {c : Code} {D : va_G} {cy : Nat → ClassId} {ad ae : Nat → Nat} {b L i cl S1 : Nat} {xs : Nat → Int32} {x3 : Int32} {aw ac bw bc : Nat} {σ τ : St} {H : Heap} {locs : List Loc} {ls : Array Slot} (S : CallFix p m c cL_law 4 s #[Value.ref b] (lawC :: uw) RL) (hX : va_X b L xs s s.heap) (hbl : b < s.heap.size) (hK : KU D cy s) (ex : x3 = nI i) (h6 : i + 6 ≤ L) (hL : L ≤ 3072) (hcl : cl + 2 ≤ 600000) (hS1 : S1 + 200000 ≤ 7302250) (hR : Rel σ τ) (hI : LawIn D cy s ad ae aw ac bw bc σ τ H locs) (hl : lv_has ls 4 [(0, .ref b), (1, .ref (ad 0)), (2, .ref (ae 0)), (3, .int x3)]) (kk : LawGo p l e s m below meth c D cy ad ae b cl S1 x3) : W p l e room_1 s m #[Value.ref b] below meth c H locs cl (S1 + Pot σ) (lw_Z below #[Value.ref b] s) (F0 m 874 ls []) := by
  have hx := S.1
  have hb := S.2.1
  have hpl := pot_le hR
  obtain ⟨hP, hD, hP2, hD2, hap, hS⟩ := hI
  have hA : ∀ q : Nat, s.heap.size ≤ q → (fun q : Nat => s.heap.size ≤ q) q := fun _ h => h
  have hbA : ¬ (fun q : Nat => s.heap.size ≤ q) b := Nat.not_le.mpr hbl
  refine lv_aload_n hx hb dL_law_874 rfl (lv_at hl 1 rfl) ?_
  refine lv_aload_n hx hb dL_law_875 rfl (lv_at hl 0 rfl) ?_
  refine lv_iload_n hx hb dL_law_876 rfl (lv_at hl 3 rfl) ?_
  refine lv_iconst (v := 1) hx hb dL_law_877 (by decide) ?_
  refine lv_iadd hx hb dL_law_878 ?_
  refine va_sld hx hb hX hbl hbA hS (in6 (k := 1) ex (by decide) h6 hL) dL_law_879 ?_
  refine lv_aload_n hx hb dL_law_880 rfl (lv_at hl 0 rfl) ?_
  refine lv_iload_n hx hb dL_law_881 rfl (lv_at hl 3 rfl) ?_
  refine lv_iconst (v := 2) hx hb dL_law_882 (by decide) ?_
  refine lv_iadd hx hb dL_law_883 ?_
  refine va_sld hx hb hX hbl hbA hS (in6 (k := 2) ex (by decide) h6 hL) dL_law_884 ?_
  obtain ⟨r, σ', τ', h1, h2, hrel⟩ := e_arched hR (xs (x3 + 1).toNatClampNeg) (xs (x3 + 2).toNatClampNeg)
  have hpot : Pot σ' = Pot σ := by unfold Pot; rw [show gn σ' = gn σ from g_arched σ (xs (x3 + 1).toNatClampNeg) (xs (x3 + 2).toNatClampNeg) _ h1]
  refine t_calli (u_runV (rest := []) S (c_X9_arched l D cy ad σ (xs (x3 + 1).toNatClampNeg) (xs (x3 + 2).toNatClampNeg) (r, σ') h1 aw ac H.size) iX9_arched vX9_arched q560 ⟨Nat.le_of_ble_eq_true rfl, Nat.le_of_ble_eq_true rfl⟩ hK hP hD (q0 := 0) rfl rfl rfl hl.1 (Nat.le_of_ble_eq_true rfl) dL_law_885 ⟨by show _ ≤ 600000; omega, by show _ ≤ 7302250; omega⟩) hD hP2 hap hS hA (fun aw ac H locs hP hD hP2 hap hS => ?_)
  refine lv_aload_n hx hb dL_law_888 rfl (lv_at hl 2 rfl) ?_
  refine lv_aload_n hx hb dL_law_889 rfl (lv_at hl 0 rfl) ?_
  refine lv_iload_n hx hb dL_law_890 rfl (lv_at hl 3 rfl) ?_
  refine lv_iconst (v := 1) hx hb dL_law_891 (by decide) ?_
  refine lv_iadd hx hb dL_law_892 ?_
  refine va_sld hx hb hX hbl hbA hS (in6 (k := 1) ex (by decide) h6 hL) dL_law_893 ?_
  refine lv_aload_n hx hb dL_law_894 rfl (lv_at hl 0 rfl) ?_
  refine lv_iload_n hx hb dL_law_895 rfl (lv_at hl 3 rfl) ?_
  refine lv_iconst (v := 2) hx hb dL_law_896 (by decide) ?_
  refine lv_iadd hx hb dL_law_897 ?_
  refine va_sld hx hb hX hbl hbA hS (in6 (k := 2) ex (by decide) h6 hL) dL_law_898 ?_
  refine t_calli (u_runV (rest := [.int r]) S (c_X10_arched l D cy ae τ (xs (x3 + 1).toNatClampNeg) (xs (x3 + 2).toNatClampNeg) (r, τ') h2 bw bc H.size) iX10_arched vX10_arched q1269 ⟨Nat.le_of_ble_eq_true rfl, Nat.le_of_ble_eq_true rfl⟩ hK hP2 hD2 (q0 := 0) rfl rfl rfl hl.1 (Nat.le_of_ble_eq_true rfl) dL_law_899 ⟨by show _ ≤ 600000; omega, by show _ ≤ 7302250; omega⟩) hD2 hP hap.symm hS hA (fun bw bc H locs hP2 hD2 hP hap hS => ?_)
  refine lv_icmp_eq (tgt := 1609) hx hb dL_law_902 (by decide) (fun _ => ?_) (fun q => absurd rfl q)
  refine W.widen (k := cl + 2) (n := S1 + Pot σ') (by omega) (by omega) ?_
  exact kk _ _ _ _ σ' τ' _ _ ls hrel ⟨hP, hD, hP2, hD2, hap.symm, hS⟩ hl
set_option maxRecDepth 100000 in
set_option maxHeartbeats 4000000 in
theorem law_21 {p : Program} {l : Launch} {e : Env} {s : State} {m : MethodId} {below : List Frame} {meth : Method} {c : Code} {D : va_G} {cy : Nat → ClassId} {ad ae : Nat → Nat} {b L i cl S1 : Nat} {xs : Nat → Int32} {x3 : Int32} {aw ac bw bc : Nat} {σ τ : St} {H : Heap} {locs : List Loc} {ls : Array Slot} (S : CallFix p m c cL_law 4 s #[Value.ref b] (lawC :: uw) RL) (hX : va_X b L xs s s.heap) (hbl : b < s.heap.size) (hK : KU D cy s) (ex : x3 = nI i) (h6 : i + 6 ≤ L) (hL : L ≤ 3072) (hcl : cl + 2 ≤ 600000) (hS1 : S1 + 200000 ≤ 7302250) (hR : Rel σ τ) (hI : LawIn D cy s ad ae aw ac bw bc σ τ H locs) (hl : lv_has ls 4 [(0, .ref b), (1, .ref (ad 0)), (2, .ref (ae 0)), (3, .int x3)]) (kk : LawGo p l e s m below meth c D cy ad ae b cl S1 x3) : W p l e room_1 s m #[Value.ref b] below meth c H locs cl (S1 + Pot σ) (lw_Z below #[Value.ref b] s) (F0 m 907 ls []) := by
  have hx := S.1
  have hb := S.2.1
  have hpl := pot_le hR
  obtain ⟨hP, hD, hP2, hD2, hap, hS⟩ := hI
  have hA : ∀ q : Nat, s.heap.size ≤ q → (fun q : Nat => s.heap.size ≤ q) q := fun _ h => h
  have hbA : ¬ (fun q : Nat => s.heap.size ≤ q) b := Nat.not_le.mpr hbl
  refine lv_aload_n hx hb dL_law_907 rfl (lv_at hl 1 rfl) ?_
  refine lv_aload_n hx hb dL_law_908 rfl (lv_at hl 0 rfl) ?_
  refine lv_iload_n hx hb dL_law_909 rfl (lv_at hl 3 rfl) ?_
  refine lv_iconst (v := 1) hx hb dL_law_910 (by decide) ?_
  refine lv_iadd hx hb dL_law_911 ?_
  refine va_sld hx hb hX hbl hbA hS (in6 (k := 1) ex (by decide) h6 hL) dL_law_912 ?_
  obtain ⟨r, σ', τ', h1, h2, hrel⟩ := e_centrings hR (xs (x3 + 1).toNatClampNeg)
  have hpot : Pot σ' = Pot σ := by unfold Pot; rw [show gn σ' = gn σ from g_centrings σ (xs (x3 + 1).toNatClampNeg) _ h1]
  refine t_calli (u_runV (rest := []) S (c_X9_centrings l D cy ad σ (xs (x3 + 1).toNatClampNeg) (r, σ') h1 aw ac H.size) iX9_centrings vX9_centrings q572 ⟨Nat.le_of_ble_eq_true rfl, Nat.le_of_ble_eq_true rfl⟩ hK hP hD (q0 := 0) rfl rfl rfl hl.1 (Nat.le_of_ble_eq_true rfl) dL_law_913 ⟨by show _ ≤ 600000; omega, by show _ ≤ 7302250; omega⟩) hD hP2 hap hS hA (fun aw ac H locs hP hD hP2 hap hS => ?_)
  refine lv_aload_n hx hb dL_law_916 rfl (lv_at hl 2 rfl) ?_
  refine lv_aload_n hx hb dL_law_917 rfl (lv_at hl 0 rfl) ?_
  refine lv_iload_n hx hb dL_law_918 rfl (lv_at hl 3 rfl) ?_
  refine lv_iconst (v := 1) hx hb dL_law_919 (by decide) ?_
  refine lv_iadd hx hb dL_law_920 ?_
  refine va_sld hx hb hX hbl hbA hS (in6 (k := 1) ex (by decide) h6 hL) dL_law_921 ?_
  refine t_calli (u_runV (rest := [.int r]) S (c_X10_centrings l D cy ae τ (xs (x3 + 1).toNatClampNeg) (r, τ') h2 bw bc H.size) iX10_centrings vX10_centrings q1277 ⟨Nat.le_of_ble_eq_true rfl, Nat.le_of_ble_eq_true rfl⟩ hK hP2 hD2 (q0 := 0) rfl rfl rfl hl.1 (Nat.le_of_ble_eq_true rfl) dL_law_922 ⟨by show _ ≤ 600000; omega, by show _ ≤ 7302250; omega⟩) hD2 hP hap.symm hS hA (fun bw bc H locs hP2 hD2 hP hap hS => ?_)
  refine lv_icmp_eq (tgt := 1609) hx hb dL_law_925 (by decide) (fun _ => ?_) (fun q => absurd rfl q)
  refine W.widen (k := cl + 2) (n := S1 + Pot σ') (by omega) (by omega) ?_
  exact kk _ _ _ _ σ' τ' _ _ ls hrel ⟨hP, hD, hP2, hD2, hap.symm, hS⟩ hl
set_option maxRecDepth 100000 in
set_option maxHeartbeats 4000000 in
theorem law_22 {p : Program} {l : Launch} {e : Env} {s : State} {m : MethodId} {below : List Frame} {meth : Method} {c : Code} {D : va_G} {cy : Nat → ClassId} {ad ae : Nat → Nat} {b L i cl S1 : Nat} {xs : Nat → Int32} {x3 : Int32} {aw ac bw bc : Nat} {σ τ : St} {H : Heap} {locs : List Loc} {ls : Array Slot} (S : CallFix p m c cL_law 4 s #[Value.ref b] (lawC :: uw) RL) (hX : va_X b L xs s s.heap) (hbl : b < s.heap.size) (hK : KU D cy s) (ex : x3 = nI i) (h6 : i + 6 ≤ L) (hL : L ≤ 3072) (hcl : cl + 2 ≤ 600000) (hS1 : S1 + 200000 ≤ 7302250) (hR : Rel σ τ) (hI : LawIn D cy s ad ae aw ac bw bc σ τ H locs) (hl : lv_has ls 4 [(0, .ref b), (1, .ref (ad 0)), (2, .ref (ae 0)), (3, .int x3)]) (kk : LawGo p l e s m below meth c D cy ad ae b cl S1 x3) : W p l e room_1 s m #[Value.ref b] below meth c H locs cl (S1 + Pot σ) (lw_Z below #[Value.ref b] s) (F0 m 930 ls []) := by
  have hx := S.1
  have hb := S.2.1
  have hpl := pot_le hR
  obtain ⟨hP, hD, hP2, hD2, hap, hS⟩ := hI
  have hA : ∀ q : Nat, s.heap.size ≤ q → (fun q : Nat => s.heap.size ≤ q) q := fun _ h => h
  have hbA : ¬ (fun q : Nat => s.heap.size ≤ q) b := Nat.not_le.mpr hbl
  refine lv_aload_n hx hb dL_law_930 rfl (lv_at hl 1 rfl) ?_
  refine lv_aload_n hx hb dL_law_931 rfl (lv_at hl 0 rfl) ?_
  refine lv_iload_n hx hb dL_law_932 rfl (lv_at hl 3 rfl) ?_
  refine lv_iconst (v := 1) hx hb dL_law_933 (by decide) ?_
  refine lv_iadd hx hb dL_law_934 ?_
  refine va_sld hx hb hX hbl hbA hS (in6 (k := 1) ex (by decide) h6 hL) dL_law_935 ?_
  refine lv_aload_n hx hb dL_law_936 rfl (lv_at hl 0 rfl) ?_
  refine lv_iload_n hx hb dL_law_937 rfl (lv_at hl 3 rfl) ?_
  refine lv_iconst (v := 2) hx hb dL_law_938 (by decide) ?_
  refine lv_iadd hx hb dL_law_939 ?_
  refine va_sld hx hb hX hbl hbA hS (in6 (k := 2) ex (by decide) h6 hL) dL_law_940 ?_
  refine lv_aload_n hx hb dL_law_941 rfl (lv_at hl 0 rfl) ?_
  refine lv_iload_n hx hb dL_law_942 rfl (lv_at hl 3 rfl) ?_
  refine lv_iconst (v := 3) hx hb dL_law_943 (by decide) ?_
  refine lv_iadd hx hb dL_law_944 ?_
  refine va_sld hx hb hX hbl hbA hS (in6 (k := 3) ex (by decide) h6 hL) dL_law_945 ?_
  obtain ⟨r, σ', τ', h1, h2, hrel⟩ := e_stand hR (xs (x3 + 1).toNatClampNeg) (xs (x3 + 2).toNatClampNeg) (xs (x3 + 3).toNatClampNeg)
  have hpot : Pot σ' = Pot σ := by unfold Pot; rw [show gn σ' = gn σ from g_stand σ (xs (x3 + 1).toNatClampNeg) (xs (x3 + 2).toNatClampNeg) (xs (x3 + 3).toNatClampNeg) _ h1]
  refine t_calli (u_runV (rest := []) S (c_X9_stand l D cy ad σ (xs (x3 + 1).toNatClampNeg) (xs (x3 + 2).toNatClampNeg) (xs (x3 + 3).toNatClampNeg) (r, σ') h1 aw ac H.size) iX9_stand vX9_stand q576 ⟨Nat.le_of_ble_eq_true rfl, Nat.le_of_ble_eq_true rfl⟩ hK hP hD (q0 := 0) rfl rfl rfl hl.1 (Nat.le_of_ble_eq_true rfl) dL_law_946 ⟨by show _ ≤ 600000; omega, by show _ ≤ 7302250; omega⟩) hD hP2 hap hS hA (fun aw ac H locs hP hD hP2 hap hS => ?_)
  refine lv_aload_n hx hb dL_law_949 rfl (lv_at hl 2 rfl) ?_
  refine lv_aload_n hx hb dL_law_950 rfl (lv_at hl 0 rfl) ?_
  refine lv_iload_n hx hb dL_law_951 rfl (lv_at hl 3 rfl) ?_
  refine lv_iconst (v := 1) hx hb dL_law_952 (by decide) ?_
  refine lv_iadd hx hb dL_law_953 ?_
  refine va_sld hx hb hX hbl hbA hS (in6 (k := 1) ex (by decide) h6 hL) dL_law_954 ?_
  refine lv_aload_n hx hb dL_law_955 rfl (lv_at hl 0 rfl) ?_
  refine lv_iload_n hx hb dL_law_956 rfl (lv_at hl 3 rfl) ?_
  refine lv_iconst (v := 2) hx hb dL_law_957 (by decide) ?_
  refine lv_iadd hx hb dL_law_958 ?_
  refine va_sld hx hb hX hbl hbA hS (in6 (k := 2) ex (by decide) h6 hL) dL_law_959 ?_
  refine lv_aload_n hx hb dL_law_960 rfl (lv_at hl 0 rfl) ?_
  refine lv_iload_n hx hb dL_law_961 rfl (lv_at hl 3 rfl) ?_
  refine lv_iconst (v := 3) hx hb dL_law_962 (by decide) ?_
  refine lv_iadd hx hb dL_law_963 ?_
  refine va_sld hx hb hX hbl hbA hS (in6 (k := 3) ex (by decide) h6 hL) dL_law_964 ?_
  refine t_calli (u_runV (rest := [.int r]) S (c_X10_stand l D cy ae τ (xs (x3 + 1).toNatClampNeg) (xs (x3 + 2).toNatClampNeg) (xs (x3 + 3).toNatClampNeg) (r, τ') h2 bw bc H.size) iX10_stand vX10_stand q1282 ⟨Nat.le_of_ble_eq_true rfl, Nat.le_of_ble_eq_true rfl⟩ hK hP2 hD2 (q0 := 0) rfl rfl rfl hl.1 (Nat.le_of_ble_eq_true rfl) dL_law_965 ⟨by show _ ≤ 600000; omega, by show _ ≤ 7302250; omega⟩) hD2 hP hap.symm hS hA (fun bw bc H locs hP2 hD2 hP hap hS => ?_)
  refine lv_icmp_eq (tgt := 1609) hx hb dL_law_968 (by decide) (fun _ => ?_) (fun q => absurd rfl q)
  refine W.widen (k := cl + 2) (n := S1 + Pot σ') (by omega) (by omega) ?_
  exact kk _ _ _ _ σ' τ' _ _ ls hrel ⟨hP, hD, hP2, hD2, hap.symm, hS⟩ hl
set_option maxRecDepth 100000 in
set_option maxHeartbeats 4000000 in
theorem law_23 {p : Program} {l : Launch} {e : Env} {s : State} {m : MethodId} {below : List Frame} {meth : Method} {c : Code} {D : va_G} {cy : Nat → ClassId} {ad ae : Nat → Nat} {b L i cl S1 : Nat} {xs : Nat → Int32} {x3 : Int32} {aw ac bw bc : Nat} {σ τ : St} {H : Heap} {locs : List Loc} {ls : Array Slot} (S : CallFix p m c cL_law 4 s #[Value.ref b] (lawC :: uw) RL) (hX : va_X b L xs s s.heap) (hbl : b < s.heap.size) (hK : KU D cy s) (ex : x3 = nI i) (h6 : i + 6 ≤ L) (hL : L ≤ 3072) (hcl : cl + 2 ≤ 600000) (hS1 : S1 + 200000 ≤ 7302250) (hR : Rel σ τ) (hI : LawIn D cy s ad ae aw ac bw bc σ τ H locs) (hl : lv_has ls 4 [(0, .ref b), (1, .ref (ad 0)), (2, .ref (ae 0)), (3, .int x3)]) (kk : LawGo p l e s m below meth c D cy ad ae b cl S1 x3) : W p l e room_1 s m #[Value.ref b] below meth c H locs cl (S1 + Pot σ) (lw_Z below #[Value.ref b] s) (F0 m 973 ls []) := by
  have hx := S.1
  have hb := S.2.1
  have hpl := pot_le hR
  obtain ⟨hP, hD, hP2, hD2, hap, hS⟩ := hI
  have hA : ∀ q : Nat, s.heap.size ≤ q → (fun q : Nat => s.heap.size ≤ q) q := fun _ h => h
  have hbA : ¬ (fun q : Nat => s.heap.size ≤ q) b := Nat.not_le.mpr hbl
  refine lv_aload_n hx hb dL_law_973 rfl (lv_at hl 1 rfl) ?_
  refine lv_aload_n hx hb dL_law_974 rfl (lv_at hl 0 rfl) ?_
  refine lv_iload_n hx hb dL_law_975 rfl (lv_at hl 3 rfl) ?_
  refine lv_iconst (v := 1) hx hb dL_law_976 (by decide) ?_
  refine lv_iadd hx hb dL_law_977 ?_
  refine va_sld hx hb hX hbl hbA hS (in6 (k := 1) ex (by decide) h6 hL) dL_law_978 ?_
  refine lv_aload_n hx hb dL_law_979 rfl (lv_at hl 0 rfl) ?_
  refine lv_iload_n hx hb dL_law_980 rfl (lv_at hl 3 rfl) ?_
  refine lv_iconst (v := 2) hx hb dL_law_981 (by decide) ?_
  refine lv_iadd hx hb dL_law_982 ?_
  refine va_sld hx hb hX hbl hbA hS (in6 (k := 2) ex (by decide) h6 hL) dL_law_983 ?_
  refine lv_aload_n hx hb dL_law_984 rfl (lv_at hl 0 rfl) ?_
  refine lv_iload_n hx hb dL_law_985 rfl (lv_at hl 3 rfl) ?_
  refine lv_iconst (v := 3) hx hb dL_law_986 (by decide) ?_
  refine lv_iadd hx hb dL_law_987 ?_
  refine va_sld hx hb hX hbl hbA hS (in6 (k := 3) ex (by decide) h6 hL) dL_law_988 ?_
  obtain ⟨r, σ', τ', h1, h2, hrel⟩ := e_price hR (xs (x3 + 1).toNatClampNeg) (xs (x3 + 2).toNatClampNeg) (xs (x3 + 3).toNatClampNeg)
  have hpot : Pot σ' = Pot σ := by unfold Pot; rw [show gn σ' = gn σ from g_price σ (xs (x3 + 1).toNatClampNeg) (xs (x3 + 2).toNatClampNeg) (xs (x3 + 3).toNatClampNeg) _ h1]
  refine t_calli (u_runV (rest := []) S (c_X9_price l D cy ad σ (xs (x3 + 1).toNatClampNeg) (xs (x3 + 2).toNatClampNeg) (xs (x3 + 3).toNatClampNeg) (r, σ') h1 aw ac H.size) iX9_price vX9_price q584 ⟨Nat.le_of_ble_eq_true rfl, Nat.le_of_ble_eq_true rfl⟩ hK hP hD (q0 := 0) rfl rfl rfl hl.1 (Nat.le_of_ble_eq_true rfl) dL_law_989 ⟨by show _ ≤ 600000; omega, by show _ ≤ 7302250; omega⟩) hD hP2 hap hS hA (fun aw ac H locs hP hD hP2 hap hS => ?_)
  refine lv_aload_n hx hb dL_law_992 rfl (lv_at hl 2 rfl) ?_
  refine lv_aload_n hx hb dL_law_993 rfl (lv_at hl 0 rfl) ?_
  refine lv_iload_n hx hb dL_law_994 rfl (lv_at hl 3 rfl) ?_
  refine lv_iconst (v := 1) hx hb dL_law_995 (by decide) ?_
  refine lv_iadd hx hb dL_law_996 ?_
  refine va_sld hx hb hX hbl hbA hS (in6 (k := 1) ex (by decide) h6 hL) dL_law_997 ?_
  refine lv_aload_n hx hb dL_law_998 rfl (lv_at hl 0 rfl) ?_
  refine lv_iload_n hx hb dL_law_999 rfl (lv_at hl 3 rfl) ?_
  refine lv_iconst (v := 2) hx hb dL_law_1000 (by decide) ?_
  refine lv_iadd hx hb dL_law_1001 ?_
  refine va_sld hx hb hX hbl hbA hS (in6 (k := 2) ex (by decide) h6 hL) dL_law_1002 ?_
  refine lv_aload_n hx hb dL_law_1003 rfl (lv_at hl 0 rfl) ?_
  refine lv_iload_n hx hb dL_law_1004 rfl (lv_at hl 3 rfl) ?_
  refine lv_iconst (v := 3) hx hb dL_law_1005 (by decide) ?_
  refine lv_iadd hx hb dL_law_1006 ?_
  refine va_sld hx hb hX hbl hbA hS (in6 (k := 3) ex (by decide) h6 hL) dL_law_1007 ?_
  refine t_calli (u_runV (rest := [.int r]) S (c_X10_price l D cy ae τ (xs (x3 + 1).toNatClampNeg) (xs (x3 + 2).toNatClampNeg) (xs (x3 + 3).toNatClampNeg) (r, τ') h2 bw bc H.size) iX10_price vX10_price q1287 ⟨Nat.le_of_ble_eq_true rfl, Nat.le_of_ble_eq_true rfl⟩ hK hP2 hD2 (q0 := 0) rfl rfl rfl hl.1 (Nat.le_of_ble_eq_true rfl) dL_law_1008 ⟨by show _ ≤ 600000; omega, by show _ ≤ 7302250; omega⟩) hD2 hP hap.symm hS hA (fun bw bc H locs hP2 hD2 hP hap hS => ?_)
  refine lv_icmp_eq (tgt := 1609) hx hb dL_law_1011 (by decide) (fun _ => ?_) (fun q => absurd rfl q)
  refine W.widen (k := cl + 2) (n := S1 + Pot σ') (by omega) (by omega) ?_
  exact kk _ _ _ _ σ' τ' _ _ ls hrel ⟨hP, hD, hP2, hD2, hap.symm, hS⟩ hl
