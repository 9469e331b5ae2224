/-! the cases of the law -/
set_option maxRecDepth 100000 in
set_option maxHeartbeats 4000000 in
theorem law_24 {p : Program} {l : Launch} {e : Env} {s : State} {m : MethodId} {below : List Frame} {meth : Method} {c : Code} {D : va_G} {cy : Nat → ClassId} {ad ae : Nat → Nat} {b L i cl S1 : Nat} {xs : Nat → Int32} {x3 : Int32} {aw ac bw bc : Nat} {σ τ : St} {H : Heap} {locs : List Loc} {ls : Array Slot} (S : CallFix p m c cL_law 4 s #[Value.ref b] (lawC :: uw) RL) (hX : va_X b L xs s s.heap) (hbl : b < s.heap.size) (hK : KU D cy s) (ex : x3 = nI i) (h6 : i + 6 ≤ L) (hL : L ≤ 3072) (hcl : cl + 2 ≤ 600000) (hS1 : S1 + 200000 ≤ 7302250) (hR : Rel σ τ) (hI : LawIn D cy s ad ae aw ac bw bc σ τ H locs) (hl : lv_has ls 4 [(0, .ref b), (1, .ref (ad 0)), (2, .ref (ae 0)), (3, .int x3)]) (kk : LawGo p l e s m below meth c D cy ad ae b cl S1 x3) : W p l e room_1 s m #[Value.ref b] below meth c H locs cl (S1 + Pot σ) (lw_Z below #[Value.ref b] s) (F0 m 1016 ls []) := by
  have hx := S.1
  have hb := S.2.1
  have hpl := pot_le hR
  obtain ⟨hP, hD, hP2, hD2, hap, hS⟩ := hI
  have hA : ∀ q : Nat, s.heap.size ≤ q → (fun q : Nat => s.heap.size ≤ q) q := fun _ h => h
  have hbA : ¬ (fun q : Nat => s.heap.size ≤ q) b := Nat.not_le.mpr hbl
  refine lv_aload_n hx hb dL_law_1016 rfl (lv_at hl 1 rfl) ?_
  refine lv_aload_n hx hb dL_law_1017 rfl (lv_at hl 0 rfl) ?_
  refine lv_iload_n hx hb dL_law_1018 rfl (lv_at hl 3 rfl) ?_
  refine lv_iconst (v := 1) hx hb dL_law_1019 (by decide) ?_
  refine lv_iadd hx hb dL_law_1020 ?_
  refine va_sld hx hb hX hbl hbA hS (in6 (k := 1) ex (by decide) h6 hL) dL_law_1021 ?_
  refine lv_aload_n hx hb dL_law_1022 rfl (lv_at hl 0 rfl) ?_
  refine lv_iload_n hx hb dL_law_1023 rfl (lv_at hl 3 rfl) ?_
  refine lv_iconst (v := 2) hx hb dL_law_1024 (by decide) ?_
  refine lv_iadd hx hb dL_law_1025 ?_
  refine va_sld hx hb hX hbl hbA hS (in6 (k := 2) ex (by decide) h6 hL) dL_law_1026 ?_
  obtain ⟨r, σ', τ', h1, h2, hrel⟩ := e_reach hR (xs (x3 + 1).toNatClampNeg) (xs (x3 + 2).toNatClampNeg)
  have hpot : Pot σ' = Pot σ := by unfold Pot; rw [show gn σ' = gn σ from g_reach σ (xs (x3 + 1).toNatClampNeg) (xs (x3 + 2).toNatClampNeg) _ h1]
  refine t_calli (u_runV (rest := []) S (c_X9_reach l D cy ad σ (xs (x3 + 1).toNatClampNeg) (xs (x3 + 2).toNatClampNeg) (r, σ') h1 aw ac H.size) iX9_reach vX9_reach q596 ⟨Nat.le_of_ble_eq_true rfl, Nat.le_of_ble_eq_true rfl⟩ hK hP hD (q0 := 0) rfl rfl rfl hl.1 (Nat.le_of_ble_eq_true rfl) dL_law_1027 ⟨by show _ ≤ 600000; omega, by show _ ≤ 7302250; omega⟩) hD hP2 hap hS hA (fun aw ac H locs hP hD hP2 hap hS => ?_)
  refine lv_aload_n hx hb dL_law_1030 rfl (lv_at hl 2 rfl) ?_
  refine lv_aload_n hx hb dL_law_1031 rfl (lv_at hl 0 rfl) ?_
  refine lv_iload_n hx hb dL_law_1032 rfl (lv_at hl 3 rfl) ?_
  refine lv_iconst (v := 1) hx hb dL_law_1033 (by decide) ?_
  refine lv_iadd hx hb dL_law_1034 ?_
  refine va_sld hx hb hX hbl hbA hS (in6 (k := 1) ex (by decide) h6 hL) dL_law_1035 ?_
  refine lv_aload_n hx hb dL_law_1036 rfl (lv_at hl 0 rfl) ?_
  refine lv_iload_n hx hb dL_law_1037 rfl (lv_at hl 3 rfl) ?_
  refine lv_iconst (v := 2) hx hb dL_law_1038 (by decide) ?_
  refine lv_iadd hx hb dL_law_1039 ?_
  refine va_sld hx hb hX hbl hbA hS (in6 (k := 2) ex (by decide) h6 hL) dL_law_1040 ?_
  refine t_calli (u_runV (rest := [.int r]) S (c_X10_reach l D cy ae τ (xs (x3 + 1).toNatClampNeg) (xs (x3 + 2).toNatClampNeg) (r, τ') h2 bw bc H.size) iX10_reach vX10_reach q1295 ⟨Nat.le_of_ble_eq_true rfl, Nat.le_of_ble_eq_true rfl⟩ hK hP2 hD2 (q0 := 0) rfl rfl rfl hl.1 (Nat.le_of_ble_eq_true rfl) dL_law_1041 ⟨by show _ ≤ 600000; omega, by show _ ≤ 7302250; omega⟩) hD2 hP hap.symm hS hA (fun bw bc H locs hP2 hD2 hP hap hS => ?_)
  refine lv_icmp_eq (tgt := 1609) hx hb dL_law_1044 (by decide) (fun _ => ?_) (fun q => absurd rfl q)
  refine W.widen (k := cl + 2) (n := S1 + Pot σ') (by omega) (by omega) ?_
  exact kk _ _ _ _ σ' τ' _ _ ls hrel ⟨hP, hD, hP2, hD2, hap.symm, hS⟩ hl
set_option maxRecDepth 100000 in
set_option maxHeartbeats 4000000 in
theorem law_25 {p : Program} {l : Launch} {e : Env} {s : State} {m : MethodId} {below : List Frame} {meth : Method} {c : Code} {D : va_G} {cy : Nat → ClassId} {ad ae : Nat → Nat} {b L i cl S1 : Nat} {xs : Nat → Int32} {x3 : Int32} {aw ac bw bc : Nat} {σ τ : St} {H : Heap} {locs : List Loc} {ls : Array Slot} (S : CallFix p m c cL_law 4 s #[Value.ref b] (lawC :: uw) RL) (hX : va_X b L xs s s.heap) (hbl : b < s.heap.size) (hK : KU D cy s) (ex : x3 = nI i) (h6 : i + 6 ≤ L) (hL : L ≤ 3072) (hcl : cl + 2 ≤ 600000) (hS1 : S1 + 200000 ≤ 7302250) (hR : Rel σ τ) (hI : LawIn D cy s ad ae aw ac bw bc σ τ H locs) (hl : lv_has ls 4 [(0, .ref b), (1, .ref (ad 0)), (2, .ref (ae 0)), (3, .int x3)]) (kk : LawGo p l e s m below meth c D cy ad ae b cl S1 x3) : W p l e room_1 s m #[Value.ref b] below meth c H locs cl (S1 + Pot σ) (lw_Z below #[Value.ref b] s) (F0 m 1049 ls []) := by
  have hx := S.1
  have hb := S.2.1
  have hpl := pot_le hR
  obtain ⟨hP, hD, hP2, hD2, hap, hS⟩ := hI
  have hA : ∀ q : Nat, s.heap.size ≤ q → (fun q : Nat => s.heap.size ≤ q) q := fun _ h => h
  have hbA : ¬ (fun q : Nat => s.heap.size ≤ q) b := Nat.not_le.mpr hbl
  refine lv_aload_n hx hb dL_law_1049 rfl (lv_at hl 1 rfl) ?_
  refine lv_aload_n hx hb dL_law_1050 rfl (lv_at hl 0 rfl) ?_
  refine lv_iload_n hx hb dL_law_1051 rfl (lv_at hl 3 rfl) ?_
  refine lv_iconst (v := 1) hx hb dL_law_1052 (by decide) ?_
  refine lv_iadd hx hb dL_law_1053 ?_
  refine va_sld hx hb hX hbl hbA hS (in6 (k := 1) ex (by decide) h6 hL) dL_law_1054 ?_
  refine lv_aload_n hx hb dL_law_1055 rfl (lv_at hl 0 rfl) ?_
  refine lv_iload_n hx hb dL_law_1056 rfl (lv_at hl 3 rfl) ?_
  refine lv_iconst (v := 2) hx hb dL_law_1057 (by decide) ?_
  refine lv_iadd hx hb dL_law_1058 ?_
  refine va_sld hx hb hX hbl hbA hS (in6 (k := 2) ex (by decide) h6 hL) dL_law_1059 ?_
  obtain ⟨r, h1, h2⟩ := e_reaches hR (xs (x3 + 1).toNatClampNeg) (xs (x3 + 2).toNatClampNeg)
  refine t_calli (u_runV (rest := []) S (c_X9_reaches l D cy ad σ (xs (x3 + 1).toNatClampNeg) (xs (x3 + 2).toNatClampNeg) r h1 aw ac H.size) iX9_reaches vX9_reaches q600 ⟨Nat.le_of_ble_eq_true rfl, Nat.le_of_ble_eq_true rfl⟩ hK hP hD (q0 := 0) rfl rfl rfl hl.1 (Nat.le_of_ble_eq_true rfl) dL_law_1060 ⟨by show _ ≤ 600000; omega, by show _ ≤ 7302250; omega⟩) hD hP2 hap hS hA (fun aw ac H locs hP hD hP2 hap hS => ?_)
  refine lv_aload_n hx hb dL_law_1063 rfl (lv_at hl 2 rfl) ?_
  refine lv_aload_n hx hb dL_law_1064 rfl (lv_at hl 0 rfl) ?_
  refine lv_iload_n hx hb dL_law_1065 rfl (lv_at hl 3 rfl) ?_
  refine lv_iconst (v := 1) hx hb dL_law_1066 (by decide) ?_
  refine lv_iadd hx hb dL_law_1067 ?_
  refine va_sld hx hb hX hbl hbA hS (in6 (k := 1) ex (by decide) h6 hL) dL_law_1068 ?_
  refine lv_aload_n hx hb dL_law_1069 rfl (lv_at hl 0 rfl) ?_
  refine lv_iload_n hx hb dL_law_1070 rfl (lv_at hl 3 rfl) ?_
  refine lv_iconst (v := 2) hx hb dL_law_1071 (by decide) ?_
  refine lv_iadd hx hb dL_law_1072 ?_
  refine va_sld hx hb hX hbl hbA hS (in6 (k := 2) ex (by decide) h6 hL) dL_law_1073 ?_
  refine t_calli (u_runV (rest := [.int r]) S (c_X10_reaches l D cy ae τ (xs (x3 + 1).toNatClampNeg) (xs (x3 + 2).toNatClampNeg) r h2 bw bc H.size) iX10_reaches vX10_reaches q1299 ⟨Nat.le_of_ble_eq_true rfl, Nat.le_of_ble_eq_true rfl⟩ hK hP2 hD2 (q0 := 0) rfl rfl rfl hl.1 (Nat.le_of_ble_eq_true rfl) dL_law_1074 ⟨by show _ ≤ 600000; omega, by show _ ≤ 7302250; omega⟩) hD2 hP hap.symm hS hA (fun bw bc H locs hP2 hD2 hP hap hS => ?_)
  refine lv_icmp_eq (tgt := 1609) hx hb dL_law_1077 (by decide) (fun _ => ?_) (fun q => absurd rfl q)
  refine W.widen (k := cl + 2) (n := S1 + Pot σ) (by omega) (by omega) ?_
  exact kk _ _ _ _ σ τ _ _ ls hR ⟨hP, hD, hP2, hD2, hap.symm, hS⟩ hl
set_option maxRecDepth 100000 in
set_option maxHeartbeats 4000000 in
theorem law_26 {p : Program} {l : Launch} {e : Env} {s : State} {m : MethodId} {below : List Frame} {meth : Method} {c : Code} {D : va_G} {cy : Nat → ClassId} {ad ae : Nat → Nat} {b L i cl S1 : Nat} {xs : Nat → Int32} {x3 : Int32} {aw ac bw bc : Nat} {σ τ : St} {H : Heap} {locs : List Loc} {ls : Array Slot} (S : CallFix p m c cL_law 4 s #[Value.ref b] (lawC :: uw) RL) (hX : va_X b L xs s s.heap) (hbl : b < s.heap.size) (hK : KU D cy s) (ex : x3 = nI i) (h6 : i + 6 ≤ L) (hL : L ≤ 3072) (hcl : cl + 2 ≤ 600000) (hS1 : S1 + 200000 ≤ 7302250) (hR : Rel σ τ) (hI : LawIn D cy s ad ae aw ac bw bc σ τ H locs) (hl : lv_has ls 4 [(0, .ref b), (1, .ref (ad 0)), (2, .ref (ae 0)), (3, .int x3)]) (kk : LawGo p l e s m below meth c D cy ad ae b cl S1 x3) : W p l e room_1 s m #[Value.ref b] below meth c H locs cl (S1 + Pot σ) (lw_Z below #[Value.ref b] s) (F0 m 1082 ls []) := by
  have hx := S.1
  have hb := S.2.1
  have hpl := pot_le hR
  obtain ⟨hP, hD, hP2, hD2, hap, hS⟩ := hI
  have hA : ∀ q : Nat, s.heap.size ≤ q → (fun q : Nat => s.heap.size ≤ q) q := fun _ h => h
  have hbA : ¬ (fun q : Nat => s.heap.size ≤ q) b := Nat.not_le.mpr hbl
  refine lv_aload_n hx hb dL_law_1082 rfl (lv_at hl 1 rfl) ?_
  refine lv_aload_n hx hb dL_law_1083 rfl (lv_at hl 0 rfl) ?_
  refine lv_iload_n hx hb dL_law_1084 rfl (lv_at hl 3 rfl) ?_
  refine lv_iconst (v := 1) hx hb dL_law_1085 (by decide) ?_
  refine lv_iadd hx hb dL_law_1086 ?_
  refine va_sld hx hb hX hbl hbA hS (in6 (k := 1) ex (by decide) h6 hL) dL_law_1087 ?_
  refine lv_aload_n hx hb dL_law_1088 rfl (lv_at hl 0 rfl) ?_
  refine lv_iload_n hx hb dL_law_1089 rfl (lv_at hl 3 rfl) ?_
  refine lv_iconst (v := 2) hx hb dL_law_1090 (by decide) ?_
  refine lv_iadd hx hb dL_law_1091 ?_
  refine va_sld hx hb hX hbl hbA hS (in6 (k := 2) ex (by decide) h6 hL) dL_law_1092 ?_
  obtain ⟨r, h1, h2⟩ := e_may hR (xs (x3 + 1).toNatClampNeg) (xs (x3 + 2).toNatClampNeg)
  refine t_calli (u_runV (rest := []) S (c_X9_may l D cy ad σ (xs (x3 + 1).toNatClampNeg) (xs (x3 + 2).toNatClampNeg) r h1 aw ac H.size) iX9_may vX9_may q611 ⟨Nat.le_of_ble_eq_true rfl, Nat.le_of_ble_eq_true rfl⟩ hK hP hD (q0 := 0) rfl rfl rfl hl.1 (Nat.le_of_ble_eq_true rfl) dL_law_1093 ⟨by show _ ≤ 600000; omega, by show _ ≤ 7302250; omega⟩) hD hP2 hap hS hA (fun aw ac H locs hP hD hP2 hap hS => ?_)
  refine lv_aload_n hx hb dL_law_1096 rfl (lv_at hl 2 rfl) ?_
  refine lv_aload_n hx hb dL_law_1097 rfl (lv_at hl 0 rfl) ?_
  refine lv_iload_n hx hb dL_law_1098 rfl (lv_at hl 3 rfl) ?_
  refine lv_iconst (v := 1) hx hb dL_law_1099 (by decide) ?_
  refine lv_iadd hx hb dL_law_1100 ?_
  refine va_sld hx hb hX hbl hbA hS (in6 (k := 1) ex (by decide) h6 hL) dL_law_1101 ?_
  refine lv_aload_n hx hb dL_law_1102 rfl (lv_at hl 0 rfl) ?_
  refine lv_iload_n hx hb dL_law_1103 rfl (lv_at hl 3 rfl) ?_
  refine lv_iconst (v := 2) hx hb dL_law_1104 (by decide) ?_
  refine lv_iadd hx hb dL_law_1105 ?_
  refine va_sld hx hb hX hbl hbA hS (in6 (k := 2) ex (by decide) h6 hL) dL_law_1106 ?_
  refine t_calli (u_runV (rest := [.int r]) S (c_X10_may l D cy ae τ (xs (x3 + 1).toNatClampNeg) (xs (x3 + 2).toNatClampNeg) r h2 bw bc H.size) iX10_may vX10_may q1307 ⟨Nat.le_of_ble_eq_true rfl, Nat.le_of_ble_eq_true rfl⟩ hK hP2 hD2 (q0 := 0) rfl rfl rfl hl.1 (Nat.le_of_ble_eq_true rfl) dL_law_1107 ⟨by show _ ≤ 600000; omega, by show _ ≤ 7302250; omega⟩) hD2 hP hap.symm hS hA (fun bw bc H locs hP2 hD2 hP hap hS => ?_)
  refine lv_icmp_eq (tgt := 1609) hx hb dL_law_1110 (by decide) (fun _ => ?_) (fun q => absurd rfl q)
  refine W.widen (k := cl + 2) (n := S1 + Pot σ) (by omega) (by omega) ?_
  exact kk _ _ _ _ σ τ _ _ ls hR ⟨hP, hD, hP2, hD2, hap.symm, hS⟩ hl
set_option maxRecDepth 100000 in
set_option maxHeartbeats 4000000 in
theorem law_27 {p : Program} {l : Launch} {e : Env} {s : State} {m : MethodId} {below : List Frame} {meth : Method} {c : Code} {D : va_G} {cy : Nat → ClassId} {ad ae : Nat → Nat} {b L i cl S1 : Nat} {xs : Nat → Int32} {x3 : Int32} {aw ac bw bc : Nat} {σ τ : St} {H : Heap} {locs : List Loc} {ls : Array Slot} (S : CallFix p m c cL_law 4 s #[Value.ref b] (lawC :: uw) RL) (hX : va_X b L xs s s.heap) (hbl : b < s.heap.size) (hK : KU D cy s) (ex : x3 = nI i) (h6 : i + 6 ≤ L) (hL : L ≤ 3072) (hcl : cl + 2 ≤ 600000) (hS1 : S1 + 200000 ≤ 7302250) (hR : Rel σ τ) (hI : LawIn D cy s ad ae aw ac bw bc σ τ H locs) (hl : lv_has ls 4 [(0, .ref b), (1, .ref (ad 0)), (2, .ref (ae 0)), (3, .int x3)]) (kk : LawGo p l e s m below meth c D cy ad ae b cl S1 x3) : W p l e room_1 s m #[Value.ref b] below meth c H locs cl (S1 + Pot σ) (lw_Z below #[Value.ref b] s) (F0 m 1115 ls []) := by
  have hx := S.1
  have hb := S.2.1
  have hpl := pot_le hR
  obtain ⟨hP, hD, hP2, hD2, hap, hS⟩ := hI
  have hA : ∀ q : Nat, s.heap.size ≤ q → (fun q : Nat => s.heap.size ≤ q) q := fun _ h => h
  have hbA : ¬ (fun q : Nat => s.heap.size ≤ q) b := Nat.not_le.mpr hbl
  refine lv_aload_n hx hb dL_law_1115 rfl (lv_at hl 1 rfl) ?_
  obtain ⟨kw, r, σ', τ', h1, h2, hrel, hpot⟩ := e_orders' hR
  have hpl2 := pot_le hrel
  refine t_calll (u_runV (rest := []) S (c_X9_orders l D cy ad kw σ (r, σ') h1 aw ac H.size) iX9_orders vX9_orders q623 ⟨Nat.le_of_ble_eq_true rfl, Nat.le_of_ble_eq_true rfl⟩ hK hP hD (q0 := 0) rfl rfl rfl hl.1 (Nat.le_of_ble_eq_true rfl) dL_law_1116 ⟨by show _ ≤ 600000; omega, by show _ ≤ 7302250; omega⟩) hD hP2 hap hS hA (fun aw ac H locs hP hD hP2 hap hS => ?_)
  refine lv_aload_n hx hb dL_law_1119 rfl (lv_at hl 2 rfl) ?_
  refine t_calll (u_runV (rest := [.long r]) S (c_X10_orders l D cy ae τ (r, τ') h2 bw bc H.size) iX10_orders vX10_orders q1315 ⟨Nat.le_of_ble_eq_true rfl, Nat.le_of_ble_eq_true rfl⟩ hK hP2 hD2 (q0 := 0) rfl rfl rfl hl.1 (Nat.le_of_ble_eq_true rfl) dL_law_1120 ⟨by show _ ≤ 600000; omega, by show _ ≤ 7302250; omega⟩) hD2 hP hap.symm hS hA (fun bw bc H locs hP2 hD2 hP hap hS => ?_)
  refine W.lcmp hx hb dL_law_1123 ?_
  refine lv_if_eq (tgt := 1609) hx hb dL_law_1124 (by decide) (fun _ => ?_) (fun q => absurd (lgc_refl r) q)
  refine W.widen (k := cl + 2) (n := S1 + Pot σ') (by omega) (by omega) ?_
  exact kk _ _ _ _ σ' τ' _ _ ls hrel ⟨hP, hD, hP2, hD2, hap.symm, hS⟩ hl
set_option maxRecDepth 100000 in
set_option maxHeartbeats 4000000 in
theorem law_28 {p : Program} {l : Launch} {e : Env} {s : State} {m : MethodId} {below : List Frame} {meth : Method} {c : Code} {D : va_G} {cy : Nat → ClassId} {ad ae : Nat → Nat} {b L i cl S1 : Nat} {xs : Nat → Int32} {x3 : Int32} {aw ac bw bc : Nat} {σ τ : St} {H : Heap} {locs : List Loc} {ls : Array Slot} (S : CallFix p m c cL_law 4 s #[Value.ref b] (lawC :: uw) RL) (hX : va_X b L xs s s.heap) (hbl : b < s.heap.size) (hK : KU D cy s) (ex : x3 = nI i) (h6 : i + 6 ≤ L) (hL : L ≤ 3072) (hcl : cl + 2 ≤ 600000) (hS1 : S1 + 200000 ≤ 7302250) (hR : Rel σ τ) (hI : LawIn D cy s ad ae aw ac bw bc σ τ H locs) (hl : lv_has ls 4 [(0, .ref b), (1, .ref (ad 0)), (2, .ref (ae 0)), (3, .int x3)]) (kk : LawGo p l e s m below meth c D cy ad ae b cl S1 x3) : W p l e room_1 s m #[Value.ref b] below meth c H locs cl (S1 + Pot σ) (lw_Z below #[Value.ref b] s) (F0 m 1129 ls []) := by
  have hx := S.1
  have hb := S.2.1
  have hpl := pot_le hR
  obtain ⟨hP, hD, hP2, hD2, hap, hS⟩ := hI
  have hA : ∀ q : Nat, s.heap.size ≤ q → (fun q : Nat => s.heap.size ≤ q) q := fun _ h => h
  have hbA : ¬ (fun q : Nat => s.heap.size ≤ q) b := Nat.not_le.mpr hbl
  refine lv_aload_n hx hb dL_law_1129 rfl (lv_at hl 1 rfl) ?_
  obtain ⟨kw, kc, r, σ', τ', h1, h2, hrel, hpot⟩ := e_plan hR
  have hpl2 := pot_le hrel
  refine t_calli (u_runV (rest := []) S (c_X9_plan l D cy ad kw kc σ (r, σ') h1 aw ac H.size) iX9_plan vX9_plan q641 ⟨Nat.le_of_ble_eq_true rfl, Nat.le_of_ble_eq_true rfl⟩ hK hP hD (q0 := 0) rfl rfl rfl hl.1 (Nat.le_of_ble_eq_true rfl) dL_law_1130 ⟨by show _ ≤ 600000; omega, by show _ ≤ 7302250; omega⟩) hD hP2 hap hS hA (fun aw ac H locs hP hD hP2 hap hS => ?_)
  refine lv_aload_n hx hb dL_law_1133 rfl (lv_at hl 2 rfl) ?_
  refine t_calli (u_runV (rest := [.int r]) S (c_X10_plan l D cy ae τ (r, τ') h2 bw bc H.size) iX10_plan vX10_plan q1319 ⟨Nat.le_of_ble_eq_true rfl, Nat.le_of_ble_eq_true rfl⟩ hK hP2 hD2 (q0 := 0) rfl rfl rfl hl.1 (Nat.le_of_ble_eq_true rfl) dL_law_1134 ⟨by show _ ≤ 600000; omega, by show _ ≤ 7302250; omega⟩) hD2 hP hap.symm hS hA (fun bw bc H locs hP2 hD2 hP hap hS => ?_)
  refine lv_icmp_eq (tgt := 1609) hx hb dL_law_1137 (by decide) (fun _ => ?_) (fun q => absurd rfl q)
  refine W.widen (k := cl + 2) (n := S1 + Pot σ') (by omega) (by omega) ?_
  exact kk _ _ _ _ σ' τ' _ _ ls hrel ⟨hP, hD, hP2, hD2, hap.symm, hS⟩ hl
set_option maxRecDepth 100000 in
set_option maxHeartbeats 4000000 in
theorem law_29 {p : Program} {l : Launch} {e : Env} {s : State} {m : MethodId} {below : List Frame} {meth : Method} {c : Code} {D : va_G} {cy : Nat → ClassId} {ad ae : Nat → Nat} {b L i cl S1 : Nat} {xs : Nat → Int32} {x3 : Int32} {aw ac bw bc : Nat} {σ τ : St} {H : Heap} {locs : List Loc} {ls : Array Slot} (S : CallFix p m c cL_law 4 s #[Value.ref b] (lawC :: uw) RL) (hX : va_X b L xs s s.heap) (hbl : b < s.heap.size) (hK : KU D cy s) (ex : x3 = nI i) (h6 : i + 6 ≤ L) (hL : L ≤ 3072) (hcl : cl + 2 ≤ 600000) (hS1 : S1 + 200000 ≤ 7302250) (hR : Rel σ τ) (hI : LawIn D cy s ad ae aw ac bw bc σ τ H locs) (hl : lv_has ls 4 [(0, .ref b), (1, .ref (ad 0)), (2, .ref (ae 0)), (3, .int x3)]) (kk : LawGo p l e s m below meth c D cy ad ae b cl S1 x3) : W p l e room_1 s m #[Value.ref b] below meth c H locs cl (S1 + Pot σ) (lw_Z below #[Value.ref b] s) (F0 m 1142 ls []) := by
  have hx := S.1
  have hb := S.2.1
  have hpl := pot_le hR
  obtain ⟨hP, hD, hP2, hD2, hap, hS⟩ := hI
  have hA : ∀ q : Nat, s.heap.size ≤ q → (fun q : Nat => s.heap.size ≤ q) q := fun _ h => h
  have hbA : ¬ (fun q : Nat => s.heap.size ≤ q) b := Nat.not_le.mpr hbl
  refine lv_aload_n hx hb dL_law_1142 rfl (lv_at hl 1 rfl) ?_
  refine lv_aload_n hx hb dL_law_1143 rfl (lv_at hl 0 rfl) ?_
  refine lv_iload_n hx hb dL_law_1144 rfl (lv_at hl 3 rfl) ?_
  refine lv_iconst (v := 1) hx hb dL_law_1145 (by decide) ?_
  refine lv_iadd hx hb dL_law_1146 ?_
  refine va_sld hx hb hX hbl hbA hS (in6 (k := 1) ex (by decide) h6 hL) dL_law_1147 ?_
  obtain ⟨kw, kc, r, σ', τ', h1, h2, hrel, hpot⟩ := e_act hR (xs (x3 + 1).toNatClampNeg)
  have hpl2 := pot_le hrel
  refine t_calli (u_runV (rest := []) S (c_X9_act l D cy ad kw kc σ (xs (x3 + 1).toNatClampNeg) (r, σ') h1 aw ac H.size) iX9_act vX9_act q696 ⟨Nat.le_of_ble_eq_true rfl, Nat.le_of_ble_eq_true rfl⟩ hK hP hD (q0 := 0) rfl rfl rfl hl.1 (Nat.le_of_ble_eq_true rfl) dL_law_1148 ⟨by show _ ≤ 600000; omega, by show _ ≤ 7302250; omega⟩) hD hP2 hap hS hA (fun aw ac H locs hP hD hP2 hap hS => ?_)
  refine lv_aload_n hx hb dL_law_1151 rfl (lv_at hl 2 rfl) ?_
  refine lv_aload_n hx hb dL_law_1152 rfl (lv_at hl 0 rfl) ?_
  refine lv_iload_n hx hb dL_law_1153 rfl (lv_at hl 3 rfl) ?_
  refine lv_iconst (v := 1) hx hb dL_law_1154 (by decide) ?_
  refine lv_iadd hx hb dL_law_1155 ?_
  refine va_sld hx hb hX hbl hbA hS (in6 (k := 1) ex (by decide) h6 hL) dL_law_1156 ?_
  refine t_calli (u_runV (rest := [.int r]) S (c_X10_act l D cy ae τ (xs (x3 + 1).toNatClampNeg) (r, τ') h2 bw bc H.size) iX10_act vX10_act q1340 ⟨Nat.le_of_ble_eq_true rfl, Nat.le_of_ble_eq_true rfl⟩ hK hP2 hD2 (q0 := 0) rfl rfl rfl hl.1 (Nat.le_of_ble_eq_true rfl) dL_law_1157 ⟨by show _ ≤ 600000; omega, by show _ ≤ 7302250; omega⟩) hD2 hP hap.symm hS hA (fun bw bc H locs hP2 hD2 hP hap hS => ?_)
  refine lv_icmp_eq (tgt := 1609) hx hb dL_law_1160 (by decide) (fun _ => ?_) (fun q => absurd rfl q)
  refine W.widen (k := cl + 2) (n := S1 + Pot σ') (by omega) (by omega) ?_
  exact kk _ _ _ _ σ' τ' _ _ ls hrel ⟨hP, hD, hP2, hD2, hap.symm, hS⟩ hl
set_option maxRecDepth 100000 in
set_option maxHeartbeats 4000000 in
theorem law_30 {p : Program} {l : Launch} {e : Env} {s : State} {m : MethodId} {below : List Frame} {meth : Method} {c : Code} {D : va_G} {cy : Nat → ClassId} {ad ae : Nat → Nat} {b L i cl S1 : Nat} {xs : Nat → Int32} {x3 : Int32} {aw ac bw bc : Nat} {σ τ : St} {H : Heap} {locs : List Loc} {ls : Array Slot} (S : CallFix p m c cL_law 4 s #[Value.ref b] (lawC :: uw) RL) (hX : va_X b L xs s s.heap) (hbl : b < s.heap.size) (hK : KU D cy s) (ex : x3 = nI i) (h6 : i + 6 ≤ L) (hL : L ≤ 3072) (hcl : cl + 2 ≤ 600000) (hS1 : S1 + 200000 ≤ 7302250) (hR : Rel σ τ) (hI : LawIn D cy s ad ae aw ac bw bc σ τ H locs) (hl : lv_has ls 4 [(0, .ref b), (1, .ref (ad 0)), (2, .ref (ae 0)), (3, .int x3)]) (kk : LawGo p l e s m below meth c D cy ad ae b cl S1 x3) : W p l e room_1 s m #[Value.ref b] below meth c H locs cl (S1 + Pot σ) (lw_Z below #[Value.ref b] s) (F0 m 1165 ls []) := by
  have hx := S.1
  have hb := S.2.1
  have hpl := pot_le hR
  obtain ⟨hP, hD, hP2, hD2, hap, hS⟩ := hI
  have hA : ∀ q : Nat, s.heap.size ≤ q → (fun q : Nat => s.heap.size ≤ q) q := fun _ h => h
  have hbA : ¬ (fun q : Nat => s.heap.size ≤ q) b := Nat.not_le.mpr hbl
  refine lv_aload_n hx hb dL_law_1165 rfl (lv_at hl 1 rfl) ?_
  refine lv_aload_n hx hb dL_law_1166 rfl (lv_at hl 0 rfl) ?_
  refine lv_iload_n hx hb dL_law_1167 rfl (lv_at hl 3 rfl) ?_
  refine lv_iconst (v := 1) hx hb dL_law_1168 (by decide) ?_
  refine lv_iadd hx hb dL_law_1169 ?_
  refine va_sld hx hb hX hbl hbA hS (in6 (k := 1) ex (by decide) h6 hL) dL_law_1170 ?_
  refine lv_aload_n hx hb dL_law_1171 rfl (lv_at hl 0 rfl) ?_
  refine lv_iload_n hx hb dL_law_1172 rfl (lv_at hl 3 rfl) ?_
  refine lv_iconst (v := 2) hx hb dL_law_1173 (by decide) ?_
  refine lv_iadd hx hb dL_law_1174 ?_
  refine va_sld hx hb hX hbl hbA hS (in6 (k := 2) ex (by decide) h6 hL) dL_law_1175 ?_
  refine lv_aload_n hx hb dL_law_1176 rfl (lv_at hl 0 rfl) ?_
  refine lv_iload_n hx hb dL_law_1177 rfl (lv_at hl 3 rfl) ?_
  refine lv_iconst (v := 3) hx hb dL_law_1178 (by decide) ?_
  refine lv_iadd hx hb dL_law_1179 ?_
  refine va_sld hx hb hX hbl hbA hS (in6 (k := 3) ex (by decide) h6 hL) dL_law_1180 ?_
  obtain ⟨r, σ', τ', h1, h2, hrel⟩ := e_light hR (xs (x3 + 1).toNatClampNeg) (xs (x3 + 2).toNatClampNeg) (xs (x3 + 3).toNatClampNeg)
  have hpot : Pot σ' = Pot σ := by unfold Pot; rw [show gn σ' = gn σ from g_light σ (xs (x3 + 1).toNatClampNeg) (xs (x3 + 2).toNatClampNeg) (xs (x3 + 3).toNatClampNeg) _ h1]
  refine t_calli (u_runV (rest := []) S (c_X9_light l D cy ad σ (xs (x3 + 1).toNatClampNeg) (xs (x3 + 2).toNatClampNeg) (xs (x3 + 3).toNatClampNeg) (r, σ') h1 aw ac H.size) iX9_light vX9_light q704 ⟨Nat.le_of_ble_eq_true rfl, Nat.le_of_ble_eq_true rfl⟩ hK hP hD (q0 := 0) rfl rfl rfl hl.1 (Nat.le_of_ble_eq_true rfl) dL_law_1181 ⟨by show _ ≤ 600000; omega, by show _ ≤ 7302250; omega⟩) hD hP2 hap hS hA (fun aw ac H locs hP hD hP2 hap hS => ?_)
  refine lv_aload_n hx hb dL_law_1184 rfl (lv_at hl 2 rfl) ?_
  refine lv_aload_n hx hb dL_law_1185 rfl (lv_at hl 0 rfl) ?_
  refine lv_iload_n hx hb dL_law_1186 rfl (lv_at hl 3 rfl) ?_
  refine lv_iconst (v := 1) hx hb dL_law_1187 (by decide) ?_
  refine lv_iadd hx hb dL_law_1188 ?_
  refine va_sld hx hb hX hbl hbA hS (in6 (k := 1) ex (by decide) h6 hL) dL_law_1189 ?_
  refine lv_aload_n hx hb dL_law_1190 rfl (lv_at hl 0 rfl) ?_
  refine lv_iload_n hx hb dL_law_1191 rfl (lv_at hl 3 rfl) ?_
  refine lv_iconst (v := 2) hx hb dL_law_1192 (by decide) ?_
  refine lv_iadd hx hb dL_law_1193 ?_
  refine va_sld hx hb hX hbl hbA hS (in6 (k := 2) ex (by decide) h6 hL) dL_law_1194 ?_
  refine lv_aload_n hx hb dL_law_1195 rfl (lv_at hl 0 rfl) ?_
  refine lv_iload_n hx hb dL_law_1196 rfl (lv_at hl 3 rfl) ?_
  refine lv_iconst (v := 3) hx hb dL_law_1197 (by decide) ?_
  refine lv_iadd hx hb dL_law_1198 ?_
  refine va_sld hx hb hX hbl hbA hS (in6 (k := 3) ex (by decide) h6 hL) dL_law_1199 ?_
  refine t_calli (u_runV (rest := [.int r]) S (c_X10_light l D cy ae τ (xs (x3 + 1).toNatClampNeg) (xs (x3 + 2).toNatClampNeg) (xs (x3 + 3).toNatClampNeg) (r, τ') h2 bw bc H.size) iX10_light vX10_light q1344 ⟨Nat.le_of_ble_eq_true rfl, Nat.le_of_ble_eq_true rfl⟩ hK hP2 hD2 (q0 := 0) rfl rfl rfl hl.1 (Nat.le_of_ble_eq_true rfl) dL_law_1200 ⟨by show _ ≤ 600000; omega, by show _ ≤ 7302250; omega⟩) hD2 hP hap.symm hS hA (fun bw bc H locs hP2 hD2 hP hap hS => ?_)
  refine lv_icmp_eq (tgt := 1609) hx hb dL_law_1203 (by decide) (fun _ => ?_) (fun q => absurd rfl q)
  refine W.widen (k := cl + 2) (n := S1 + Pot σ') (by omega) (by omega) ?_
  exact kk _ _ _ _ σ' τ' _ _ ls hrel ⟨hP, hD, hP2, hD2, hap.symm, hS⟩ hl
set_option maxRecDepth 100000 in
set_option maxHeartbeats 4000000 in
theorem law_31 {p : Program} {l : Launch} {e : Env} {s : State} {m : MethodId} {below : List Frame} {meth : Method} {c : Code} {D : va_G} {cy : Nat → ClassId} {ad ae : Nat → Nat} {b L i cl S1 : Nat} {xs : Nat → Int32} {x3 : Int32} {aw ac bw bc : Nat} {σ τ : St} {H : Heap} {locs : List Loc} {ls : Array Slot} (S : CallFix p m c cL_law 4 s #[Value.ref b] (lawC :: uw) RL) (hX : va_X b L xs s s.heap) (hbl : b < s.heap.size) (hK : KU D cy s) (ex : x3 = nI i) (h6 : i + 6 ≤ L) (hL : L ≤ 3072) (hcl : cl + 2 ≤ 600000) (hS1 : S1 + 200000 ≤ 7302250) (hR : Rel σ τ) (hI : LawIn D cy s ad ae aw ac bw bc σ τ H locs) (hl : lv_has ls 4 [(0, .ref b), (1, .ref (ad 0)), (2, .ref (ae 0)), (3, .int x3)]) (kk : LawGo p l e s m below meth c D cy ad ae b cl S1 x3) : W p l e room_1 s m #[Value.ref b] below meth c H locs cl (S1 + Pot σ) (lw_Z below #[Value.ref b] s) (F0 m 1208 ls []) := by
  have hx := S.1
  have hb := S.2.1
  have hpl := pot_le hR
  obtain ⟨hP, hD, hP2, hD2, hap, hS⟩ := hI
  have hA : ∀ q : Nat, s.heap.size ≤ q → (fun q : Nat => s.heap.size ≤ q) q := fun _ h => h
  have hbA : ¬ (fun q : Nat => s.heap.size ≤ q) b := Nat.not_le.mpr hbl
  by_cases hz : xs (x3 + 2).toNatClampNeg = 0
  · refine lv_aload_n hx hb dL_law_1208 rfl (lv_at hl 1 rfl) ?_
    refine lv_aload_n hx hb dL_law_1209 rfl (lv_at hl 0 rfl) ?_
    refine lv_iload_n hx hb dL_law_1210 rfl (lv_at hl 3 rfl) ?_
    refine lv_iconst (v := 1) hx hb dL_law_1211 (by decide) ?_
    refine lv_iadd hx hb dL_law_1212 ?_
    refine va_sld hx hb hX hbl hbA hS (in6 (k := 1) ex (by decide) h6 hL) dL_law_1213 ?_
    refine lv_aload_n hx hb dL_law_1214 rfl (lv_at hl 0 rfl) ?_
    refine lv_iload_n hx hb dL_law_1215 rfl (lv_at hl 3 rfl) ?_
    refine lv_iconst (v := 2) hx hb dL_law_1216 (by decide) ?_
    refine lv_iadd hx hb dL_law_1217 ?_
    refine va_sld hx hb hX hbl hbA hS (in6 (k := 2) ex (by decide) h6 hL) dL_law_1218 ?_
    refine lv_if_eq (tgt := 1226) hx hb dL_law_1219 (by decide) (fun _ => ?_) (fun q => absurd hz q)
    refine lv_iconst (v := 0) hx hb dL_law_1226 (by decide) ?_
    obtain ⟨r, σ', τ', h1, h2, hrel⟩ := e_frost hR (xs (x3 + 1).toNatClampNeg) 0 (Or.inl rfl)
    have hpot : Pot σ' = Pot σ := by unfold Pot; rw [show gn σ' = gn σ from g_frost σ (xs (x3 + 1).toNatClampNeg) 0 _ h1]
    refine t_calli (u_runV (rest := []) S (c_X9_frost l D cy ad σ (xs (x3 + 1).toNatClampNeg) 0 (r, σ') h1 aw ac H.size) iX9_frost vX9_frost q712 ⟨Nat.le_of_ble_eq_true rfl, Nat.le_of_ble_eq_true rfl⟩ hK hP hD (q0 := 0) rfl rfl rfl hl.1 (Nat.le_of_ble_eq_true rfl) dL_law_1227 ⟨by show _ ≤ 600000; omega, by show _ ≤ 7302250; omega⟩) hD hP2 hap hS hA (fun aw ac H locs hP hD hP2 hap hS => ?_)
    refine lv_aload_n hx hb dL_law_1230 rfl (lv_at hl 2 rfl) ?_
    refine lv_aload_n hx hb dL_law_1231 rfl (lv_at hl 0 rfl) ?_
    refine lv_iload_n hx hb dL_law_1232 rfl (lv_at hl 3 rfl) ?_
    refine lv_iconst (v := 1) hx hb dL_law_1233 (by decide) ?_
    refine lv_iadd hx hb dL_law_1234 ?_
    refine va_sld hx hb hX hbl hbA hS (in6 (k := 1) ex (by decide) h6 hL) dL_law_1235 ?_
    refine lv_aload_n hx hb dL_law_1236 rfl (lv_at hl 0 rfl) ?_
    refine lv_iload_n hx hb dL_law_1237 rfl (lv_at hl 3 rfl) ?_
    refine lv_iconst (v := 2) hx hb dL_law_1238 (by decide) ?_
    refine lv_iadd hx hb dL_law_1239 ?_
    refine va_sld hx hb hX hbl hbA hS (in6 (k := 2) ex (by decide) h6 hL) dL_law_1240 ?_
    refine lv_if_eq (tgt := 1248) hx hb dL_law_1241 (by decide) (fun _ => ?_) (fun q => absurd hz q)
    refine lv_iconst (v := 0) hx hb dL_law_1248 (by decide) ?_
    refine t_calli (u_runV (rest := [.int r]) S (c_X10_frost l D cy ae τ (xs (x3 + 1).toNatClampNeg) 0 (r, τ') h2 bw bc H.size) iX10_frost vX10_frost q1353 ⟨Nat.le_of_ble_eq_true rfl, Nat.le_of_ble_eq_true rfl⟩ hK hP2 hD2 (q0 := 0) rfl rfl rfl hl.1 (Nat.le_of_ble_eq_true rfl) dL_law_1249 ⟨by show _ ≤ 600000; omega, by show _ ≤ 7302250; omega⟩) hD2 hP hap.symm hS hA (fun bw bc H locs hP2 hD2 hP hap hS => ?_)
    refine lv_icmp_eq (tgt := 1609) hx hb dL_law_1252 (by decide) (fun _ => ?_) (fun q => absurd rfl q)
    refine W.widen (k := cl + 2) (n := S1 + Pot σ') (by omega) (by omega) ?_
    exact kk _ _ _ _ σ' τ' _ _ ls hrel ⟨hP, hD, hP2, hD2, hap.symm, hS⟩ hl
  · refine lv_aload_n hx hb dL_law_1208 rfl (lv_at hl 1 rfl) ?_
    refine lv_aload_n hx hb dL_law_1209 rfl (lv_at hl 0 rfl) ?_
    refine lv_iload_n hx hb dL_law_1210 rfl (lv_at hl 3 rfl) ?_
    refine lv_iconst (v := 1) hx hb dL_law_1211 (by decide) ?_
    refine lv_iadd hx hb dL_law_1212 ?_
    refine va_sld hx hb hX hbl hbA hS (in6 (k := 1) ex (by decide) h6 hL) dL_law_1213 ?_
    refine lv_aload_n hx hb dL_law_1214 rfl (lv_at hl 0 rfl) ?_
    refine lv_iload_n hx hb dL_law_1215 rfl (lv_at hl 3 rfl) ?_
    refine lv_iconst (v := 2) hx hb dL_law_1216 (by decide) ?_
    refine lv_iadd hx hb dL_law_1217 ?_
    refine va_sld hx hb hX hbl hbA hS (in6 (k := 2) ex (by decide) h6 hL) dL_law_1218 ?_
    refine lv_if_eq (tgt := 1226) hx hb dL_law_1219 (by decide) (fun q => absurd q hz) (fun _ => ?_)
    refine lv_iconst (v := 1) hx hb dL_law_1222 (by decide) ?_
    refine lv_goto (tgt := 1227) hx hb dL_law_1223 (by decide) ?_
    obtain ⟨r, σ', τ', h1, h2, hrel⟩ := e_frost hR (xs (x3 + 1).toNatClampNeg) 1 (Or.inr rfl)
    have hpot : Pot σ' = Pot σ := by unfold Pot; rw [show gn σ' = gn σ from g_frost σ (xs (x3 + 1).toNatClampNeg) 1 _ h1]
    refine t_calli (u_runV (rest := []) S (c_X9_frost l D cy ad σ (xs (x3 + 1).toNatClampNeg) 1 (r, σ') h1 aw ac H.size) iX9_frost vX9_frost q712 ⟨Nat.le_of_ble_eq_true rfl, Nat.le_of_ble_eq_true rfl⟩ hK hP hD (q0 := 0) rfl rfl rfl hl.1 (Nat.le_of_ble_eq_true rfl) dL_law_1227 ⟨by show _ ≤ 600000; omega, by show _ ≤ 7302250; omega⟩) hD hP2 hap hS hA (fun aw ac H locs hP hD hP2 hap hS => ?_)
    refine lv_aload_n hx hb dL_law_1230 rfl (lv_at hl 2 rfl) ?_
    refine lv_aload_n hx hb dL_law_1231 rfl (lv_at hl 0 rfl) ?_
    refine lv_iload_n hx hb dL_law_1232 rfl (lv_at hl 3 rfl) ?_
    refine lv_iconst (v := 1) hx hb dL_law_1233 (by decide) ?_
    refine lv_iadd hx hb dL_law_1234 ?_
    refine va_sld hx hb hX hbl hbA hS (in6 (k := 1) ex (by decide) h6 hL) dL_law_1235 ?_
    refine lv_aload_n hx hb dL_law_1236 rfl (lv_at hl 0 rfl) ?_
    refine lv_iload_n hx hb dL_law_1237 rfl (lv_at hl 3 rfl) ?_
    refine lv_iconst (v := 2) hx hb dL_law_1238 (by decide) ?_
    refine lv_iadd hx hb dL_law_1239 ?_
    refine va_sld hx hb hX hbl hbA hS (in6 (k := 2) ex (by decide) h6 hL) dL_law_1240 ?_
    refine lv_if_eq (tgt := 1248) hx hb dL_law_1241 (by decide) (fun q => absurd q hz) (fun _ => ?_)
    refine lv_iconst (v := 1) hx hb dL_law_1244 (by decide) ?_
    refine lv_goto (tgt := 1249) hx hb dL_law_1245 (by decide) ?_
    refine t_calli (u_runV (rest := [.int r]) S (c_X10_frost l D cy ae τ (xs (x3 + 1).toNatClampNeg) 1 (r, τ') h2 bw bc H.size) iX10_frost vX10_frost q1353 ⟨Nat.le_of_ble_eq_true rfl, Nat.le_of_ble_eq_true rfl⟩ hK hP2 hD2 (q0 := 0) rfl rfl rfl hl.1 (Nat.le_of_ble_eq_true rfl) dL_law_1249 ⟨by show _ ≤ 600000; omega, by show _ ≤ 7302250; omega⟩) hD2 hP hap.symm hS hA (fun bw bc H locs hP2 hD2 hP hap hS => ?_)
    refine lv_icmp_eq (tgt := 1609) hx hb dL_law_1252 (by decide) (fun _ => ?_) (fun q => absurd rfl q)
    refine W.widen (k := cl + 2) (n := S1 + Pot σ') (by omega) (by omega) ?_
    exact kk _ _ _ _ σ' τ' _ _ ls hrel ⟨hP, hD, hP2, hD2, hap.symm, hS⟩ hl
set_option maxRecDepth 100000 in
set_option maxHeartbeats 4000000 in
theorem law_32 {p : Program} {l : Launch} {e : Env} {s : State} {m : MethodId} {below : List Frame} {meth : Method} {c : Code} {D : va_G} {cy : Nat → ClassId} {ad ae : Nat → Nat} {b L i cl S1 : Nat} {xs : Nat → Int32} {x3 : Int32} {aw ac bw bc : Nat} {σ τ : St} {H : Heap} {locs : List Loc} {ls : Array Slot} (S : CallFix p m c cL_law 4 s #[Value.ref b] (lawC :: uw) RL) (hX : va_X b L xs s s.heap) (hbl : b < s.heap.size) (hK : KU D cy s) (ex : x3 = nI i) (h6 : i + 6 ≤ L) (hL : L ≤ 3072) (hcl : cl + 2 ≤ 600000) (hS1 : S1 + 200000 ≤ 7302250) (hR : Rel σ τ) (hI : LawIn D cy s ad ae aw ac bw bc σ τ H locs) (hl : lv_has ls 4 [(0, .ref b), (1, .ref (ad 0)), (2, .ref (ae 0)), (3, .int x3)]) (kk : LawGo p l e s m below meth c D cy ad ae b cl S1 x3) : W p l e room_1 s m #[Value.ref b] below meth c H locs cl (S1 + Pot σ) (lw_Z below #[Value.ref b] s) (F0 m 1257 ls []) := by
  have hx := S.1
  have hb := S.2.1
  have hpl := pot_le hR
  obtain ⟨hP, hD, hP2, hD2, hap, hS⟩ := hI
  have hA : ∀ q : Nat, s.heap.size ≤ q → (fun q : Nat => s.heap.size ≤ q) q := fun _ h => h
  have hbA : ¬ (fun q : Nat => s.heap.size ≤ q) b := Nat.not_le.mpr hbl
  refine lv_aload_n hx hb dL_law_1257 rfl (lv_at hl 1 rfl) ?_
  refine lv_aload_n hx hb dL_law_1258 rfl (lv_at hl 0 rfl) ?_
  refine lv_iload_n hx hb dL_law_1259 rfl (lv_at hl 3 rfl) ?_
  refine lv_iconst (v := 1) hx hb dL_law_1260 (by decide) ?_
  refine lv_iadd hx hb dL_law_1261 ?_
  refine va_sld hx hb hX hbl hbA hS (in6 (k := 1) ex (by decide) h6 hL) dL_law_1262 ?_
  obtain ⟨r, σ', τ', h1, h2, hrel⟩ := e_mortar hR (xs (x3 + 1).toNatClampNeg)
  have hpot : Pot σ' = Pot σ := by unfold Pot; rw [show gn σ' = gn σ from g_mortar σ (xs (x3 + 1).toNatClampNeg) _ h1]
  refine t_calli (u_runV (rest := []) S (c_X9_mortar l D cy ad σ (xs (x3 + 1).toNatClampNeg) (r, σ') h1 aw ac H.size) iX9_mortar vX9_mortar q716 ⟨Nat.le_of_ble_eq_true rfl, Nat.le_of_ble_eq_true rfl⟩ hK hP hD (q0 := 0) rfl rfl rfl hl.1 (Nat.le_of_ble_eq_true rfl) dL_law_1263 ⟨by show _ ≤ 600000; omega, by show _ ≤ 7302250; omega⟩) hD hP2 hap hS hA (fun aw ac H locs hP hD hP2 hap hS => ?_)
  refine lv_aload_n hx hb dL_law_1266 rfl (lv_at hl 2 rfl) ?_
  refine lv_aload_n hx hb dL_law_1267 rfl (lv_at hl 0 rfl) ?_
  refine lv_iload_n hx hb dL_law_1268 rfl (lv_at hl 3 rfl) ?_
  refine lv_iconst (v := 1) hx hb dL_law_1269 (by decide) ?_
  refine lv_iadd hx hb dL_law_1270 ?_
  refine va_sld hx hb hX hbl hbA hS (in6 (k := 1) ex (by decide) h6 hL) dL_law_1271 ?_
  refine t_calli (u_runV (rest := [.int r]) S (c_X10_mortar l D cy ae τ (xs (x3 + 1).toNatClampNeg) (r, τ') h2 bw bc H.size) iX10_mortar vX10_mortar q1357 ⟨Nat.le_of_ble_eq_true rfl, Nat.le_of_ble_eq_true rfl⟩ hK hP2 hD2 (q0 := 0) rfl rfl rfl hl.1 (Nat.le_of_ble_eq_true rfl) dL_law_1272 ⟨by show _ ≤ 600000; omega, by show _ ≤ 7302250; omega⟩) hD2 hP hap.symm hS hA (fun bw bc H locs hP2 hD2 hP hap hS => ?_)
  refine lv_icmp_eq (tgt := 1609) hx hb dL_law_1275 (by decide) (fun _ => ?_) (fun q => absurd rfl q)
  refine W.widen (k := cl + 2) (n := S1 + Pot σ') (by omega) (by omega) ?_
  exact kk _ _ _ _ σ' τ' _ _ ls hrel ⟨hP, hD, hP2, hD2, hap.symm, hS⟩ hl
set_option maxRecDepth 100000 in
set_option maxHeartbeats 4000000 in
theorem law_33 {p : Program} {l : Launch} {e : Env} {s : State} {m : MethodId} {below : List Frame} {meth : Method} {c : Code} {D : va_G} {cy : Nat → ClassId} {ad ae : Nat → Nat} {b L i cl S1 : Nat} {xs : Nat → Int32} {x3 : Int32} {aw ac bw bc : Nat} {σ τ : St} {H : Heap} {locs : List Loc} {ls : Array Slot} (S : CallFix p m c cL_law 4 s #[Value.ref b] (lawC :: uw) RL) (hX : va_X b L xs s s.heap) (hbl : b < s.heap.size) (hK : KU D cy s) (ex : x3 = nI i) (h6 : i + 6 ≤ L) (hL : L ≤ 3072) (hcl : cl + 2 ≤ 600000) (hS1 : S1 + 200000 ≤ 7302250) (hR : Rel σ τ) (hI : LawIn D cy s ad ae aw ac bw bc σ τ H locs) (hl : lv_has ls 4 [(0, .ref b), (1, .ref (ad 0)), (2, .ref (ae 0)), (3, .int x3)]) (kk : LawGo p l e s m below meth c D cy ad ae b cl S1 x3) : W p l e room_1 s m #[Value.ref b] below meth c H locs cl (S1 + Pot σ) (lw_Z below #[Value.ref b] s) (F0 m 1280 ls []) := by
  have hx := S.1
  have hb := S.2.1
  have hpl := pot_le hR
  obtain ⟨hP, hD, hP2, hD2, hap, hS⟩ := hI
  have hA : ∀ q : Nat, s.heap.size ≤ q → (fun q : Nat => s.heap.size ≤ q) q := fun _ h => h
  have hbA : ¬ (fun q : Nat => s.heap.size ≤ q) b := Nat.not_le.mpr hbl
  refine lv_aload_n hx hb dL_law_1280 rfl (lv_at hl 1 rfl) ?_
  refine lv_aload_n hx hb dL_law_1281 rfl (lv_at hl 0 rfl) ?_
  refine lv_iload_n hx hb dL_law_1282 rfl (lv_at hl 3 rfl) ?_
  refine lv_iconst (v := 1) hx hb dL_law_1283 (by decide) ?_
  refine lv_iadd hx hb dL_law_1284 ?_
  refine va_sld hx hb hX hbl hbA hS (in6 (k := 1) ex (by decide) h6 hL) dL_law_1285 ?_
  obtain ⟨kw, kc, r, σ', τ', h1, h2, hrel, hpot⟩ := e_laid hR (xs (x3 + 1).toNatClampNeg)
  have hpl2 := pot_le hrel
  refine t_calli (u_runV (rest := []) S (c_X9_laid l D cy ad kw kc σ (xs (x3 + 1).toNatClampNeg) (r, σ') h1 aw ac H.size) iX9_laid vX9_laid q720 ⟨Nat.le_of_ble_eq_true rfl, Nat.le_of_ble_eq_true rfl⟩ hK hP hD (q0 := 0) rfl rfl rfl hl.1 (Nat.le_of_ble_eq_true rfl) dL_law_1286 ⟨by show _ ≤ 600000; omega, by show _ ≤ 7302250; omega⟩) hD hP2 hap hS hA (fun aw ac H locs hP hD hP2 hap hS => ?_)
  refine lv_aload_n hx hb dL_law_1289 rfl (lv_at hl 2 rfl) ?_
  refine lv_aload_n hx hb dL_law_1290 rfl (lv_at hl 0 rfl) ?_
  refine lv_iload_n hx hb dL_law_1291 rfl (lv_at hl 3 rfl) ?_
  refine lv_iconst (v := 1) hx hb dL_law_1292 (by decide) ?_
  refine lv_iadd hx hb dL_law_1293 ?_
  refine va_sld hx hb hX hbl hbA hS (in6 (k := 1) ex (by decide) h6 hL) dL_law_1294 ?_
  refine t_calli (u_runV (rest := [.int r]) S (c_X10_laid l D cy ae τ (xs (x3 + 1).toNatClampNeg) (r, τ') h2 bw bc H.size) iX10_laid vX10_laid q1361 ⟨Nat.le_of_ble_eq_true rfl, Nat.le_of_ble_eq_true rfl⟩ hK hP2 hD2 (q0 := 0) rfl rfl rfl hl.1 (Nat.le_of_ble_eq_true rfl) dL_law_1295 ⟨by show _ ≤ 600000; omega, by show _ ≤ 7302250; omega⟩) hD2 hP hap.symm hS hA (fun bw bc H locs hP2 hD2 hP hap hS => ?_)
  refine lv_icmp_eq (tgt := 1609) hx hb dL_law_1298 (by decide) (fun _ => ?_) (fun q => absurd rfl q)
  refine W.widen (k := cl + 2) (n := S1 + Pot σ') (by omega) (by omega) ?_
  exact kk _ _ _ _ σ' τ' _ _ ls hrel ⟨hP, hD, hP2, hD2, hap.symm, hS⟩ hl
set_option maxRecDepth 100000 in
set_option maxHeartbeats 4000000 in
theorem law_34 {p : Program} {l : Launch} {e : Env} {s : State} {m : MethodId} {below : List Frame} {meth : Method} {c : Code} {D : va_G} {cy : Nat → ClassId} {ad ae : Nat → Nat} {b L i cl S1 : Nat} {xs : Nat → Int32} {x3 : Int32} {aw ac bw bc : Nat} {σ τ : St} {H : Heap} {locs : List Loc} {ls : Array Slot} (S : CallFix p m c cL_law 4 s #[Value.ref b] (lawC :: uw) RL) (hX : va_X b L xs s s.heap) (hbl : b < s.heap.size) (hK : KU D cy s) (ex : x3 = nI i) (h6 : i + 6 ≤ L) (hL : L ≤ 3072) (hcl : cl + 2 ≤ 600000) (hS1 : S1 + 200000 ≤ 7302250) (hR : Rel σ τ) (hI : LawIn D cy s ad ae aw ac bw bc σ τ H locs) (hl : lv_has ls 4 [(0, .ref b), (1, .ref (ad 0)), (2, .ref (ae 0)), (3, .int x3)]) (kk : LawGo p l e s m below meth c D cy ad ae b cl S1 x3) : W p l e room_1 s m #[Value.ref b] below meth c H locs cl (S1 + Pot σ) (lw_Z below #[Value.ref b] s) (F0 m 1303 ls []) := by
  have hx := S.1
  have hb := S.2.1
  have hpl := pot_le hR
  obtain ⟨hP, hD, hP2, hD2, hap, hS⟩ := hI
  have hA : ∀ q : Nat, s.heap.size ≤ q → (fun q : Nat => s.heap.size ≤ q) q := fun _ h => h
  have hbA : ¬ (fun q : Nat => s.heap.size ≤ q) b := Nat.not_le.mpr hbl
  refine lv_aload_n hx hb dL_law_1303 rfl (lv_at hl 1 rfl) ?_
  obtain ⟨kw, kc, r, σ', τ', h1, h2, hrel, hpot⟩ := e_end hR
  have hpl2 := pot_le hrel
  refine t_calli (u_runV (rest := []) S (c_X9_end l D cy ad kw kc σ (r, σ') h1 aw ac H.size) iX9_end vX9_end q754 ⟨Nat.le_of_ble_eq_true rfl, Nat.le_of_ble_eq_true rfl⟩ hK hP hD (q0 := 0) rfl rfl rfl hl.1 (Nat.le_of_ble_eq_true rfl) dL_law_1304 ⟨by show _ ≤ 600000; omega, by show _ ≤ 7302250; omega⟩) hD hP2 hap hS hA (fun aw ac H locs hP hD hP2 hap hS => ?_)
  refine lv_aload_n hx hb dL_law_1307 rfl (lv_at hl 2 rfl) ?_
  refine t_calli (u_runV (rest := [.int r]) S (c_X10_end l D cy ae τ (r, τ') h2 bw bc H.size) iX10_end vX10_end q1381 ⟨Nat.le_of_ble_eq_true rfl, Nat.le_of_ble_eq_true rfl⟩ hK hP2 hD2 (q0 := 0) rfl rfl rfl hl.1 (Nat.le_of_ble_eq_true rfl) dL_law_1308 ⟨by show _ ≤ 600000; omega, by show _ ≤ 7302250; omega⟩) hD2 hP hap.symm hS hA (fun bw bc H locs hP2 hD2 hP hap hS => ?_)
  refine lv_icmp_eq (tgt := 1609) hx hb dL_law_1311 (by decide) (fun _ => ?_) (fun q => absurd rfl q)
  refine W.widen (k := cl + 2) (n := S1 + Pot σ') (by omega) (by omega) ?_
  exact kk _ _ _ _ σ' τ' _ _ ls hrel ⟨hP, hD, hP2, hD2, hap.symm, hS⟩ hl
set_option maxRecDepth 100000 in
set_option maxHeartbeats 4000000 in
theorem law_35 {p : Program} {l : Launch} {e : Env} {s : State} {m : MethodId} {below : List Frame} {meth : Method} {c : Code} {D : va_G} {cy : Nat → ClassId} {ad ae : Nat → Nat} {b L i cl S1 : Nat} {xs : Nat → Int32} {x3 : Int32} {aw ac bw bc : Nat} {σ τ : St} {H : Heap} {locs : List Loc} {ls : Array Slot} (S : CallFix p m c cL_law 4 s #[Value.ref b] (lawC :: uw) RL) (hX : va_X b L xs s s.heap) (hbl : b < s.heap.size) (hK : KU D cy s) (ex : x3 = nI i) (h6 : i + 6 ≤ L) (hL : L ≤ 3072) (hcl : cl + 2 ≤ 600000) (hS1 : S1 + 200000 ≤ 7302250) (hR : Rel σ τ) (hI : LawIn D cy s ad ae aw ac bw bc σ τ H locs) (hl : lv_has ls 4 [(0, .ref b), (1, .ref (ad 0)), (2, .ref (ae 0)), (3, .int x3)]) (kk : LawGo p l e s m below meth c D cy ad ae b cl S1 x3) : W p l e room_1 s m #[Value.ref b] below meth c H locs cl (S1 + Pot σ) (lw_Z below #[Value.ref b] s) (F0 m 1316 ls []) := by
  have hx := S.1
  have hb := S.2.1
  have hpl := pot_le hR
  obtain ⟨hP, hD, hP2, hD2, hap, hS⟩ := hI
  have hA : ∀ q : Nat, s.heap.size ≤ q → (fun q : Nat => s.heap.size ≤ q) q := fun _ h => h
  have hbA : ¬ (fun q : Nat => s.heap.size ≤ q) b := Nat.not_le.mpr hbl
  refine lv_aload_n hx hb dL_law_1316 rfl (lv_at hl 1 rfl) ?_
  refine lv_aload_n hx hb dL_law_1317 rfl (lv_at hl 0 rfl) ?_
  refine lv_iload_n hx hb dL_law_1318 rfl (lv_at hl 3 rfl) ?_
  refine lv_iconst (v := 1) hx hb dL_law_1319 (by decide) ?_
  refine lv_iadd hx hb dL_law_1320 ?_
  refine va_sld hx hb hX hbl hbA hS (in6 (k := 1) ex (by decide) h6 hL) dL_law_1321 ?_
  refine lv_aload_n hx hb dL_law_1322 rfl (lv_at hl 0 rfl) ?_
  refine lv_iload_n hx hb dL_law_1323 rfl (lv_at hl 3 rfl) ?_
  refine lv_iconst (v := 2) hx hb dL_law_1324 (by decide) ?_
  refine lv_iadd hx hb dL_law_1325 ?_
  refine va_sld hx hb hX hbl hbA hS (in6 (k := 2) ex (by decide) h6 hL) dL_law_1326 ?_
  refine lv_aload_n hx hb dL_law_1327 rfl (lv_at hl 0 rfl) ?_
  refine lv_iload_n hx hb dL_law_1328 rfl (lv_at hl 3 rfl) ?_
  refine lv_iconst (v := 3) hx hb dL_law_1329 (by decide) ?_
  refine lv_iadd hx hb dL_law_1330 ?_
  refine va_sld hx hb hX hbl hbA hS (in6 (k := 3) ex (by decide) h6 hL) dL_law_1331 ?_
  obtain ⟨kw, kc, r, σ', τ', h1, h2, hrel, hpot⟩ := e_worst hR (xs (x3 + 1).toNatClampNeg) (xs (x3 + 2).toNatClampNeg) (xs (x3 + 3).toNatClampNeg)
  have hpl2 := pot_le hrel
  refine t_calli (u_runV (rest := []) S (c_X9_worst l D cy ad kw kc σ (xs (x3 + 1).toNatClampNeg) (xs (x3 + 2).toNatClampNeg) (xs (x3 + 3).toNatClampNeg) (r, σ') h1 aw ac H.size) iX9_worst vX9_worst q758 ⟨Nat.le_of_ble_eq_true rfl, Nat.le_of_ble_eq_true rfl⟩ hK hP hD (q0 := 0) rfl rfl rfl hl.1 (Nat.le_of_ble_eq_true rfl) dL_law_1332 ⟨by show _ ≤ 600000; omega, by show _ ≤ 7302250; omega⟩) hD hP2 hap hS hA (fun aw ac H locs hP hD hP2 hap hS => ?_)
  refine lv_aload_n hx hb dL_law_1335 rfl (lv_at hl 2 rfl) ?_
  refine lv_aload_n hx hb dL_law_1336 rfl (lv_at hl 0 rfl) ?_
  refine lv_iload_n hx hb dL_law_1337 rfl (lv_at hl 3 rfl) ?_
  refine lv_iconst (v := 1) hx hb dL_law_1338 (by decide) ?_
  refine lv_iadd hx hb dL_law_1339 ?_
  refine va_sld hx hb hX hbl hbA hS (in6 (k := 1) ex (by decide) h6 hL) dL_law_1340 ?_
  refine lv_aload_n hx hb dL_law_1341 rfl (lv_at hl 0 rfl) ?_
  refine lv_iload_n hx hb dL_law_1342 rfl (lv_at hl 3 rfl) ?_
  refine lv_iconst (v := 2) hx hb dL_law_1343 (by decide) ?_
  refine lv_iadd hx hb dL_law_1344 ?_
  refine va_sld hx hb hX hbl hbA hS (in6 (k := 2) ex (by decide) h6 hL) dL_law_1345 ?_
  refine lv_aload_n hx hb dL_law_1346 rfl (lv_at hl 0 rfl) ?_
  refine lv_iload_n hx hb dL_law_1347 rfl (lv_at hl 3 rfl) ?_
  refine lv_iconst (v := 3) hx hb dL_law_1348 (by decide) ?_
  refine lv_iadd hx hb dL_law_1349 ?_
  refine va_sld hx hb hX hbl hbA hS (in6 (k := 3) ex (by decide) h6 hL) dL_law_1350 ?_
  refine t_calli (u_runV (rest := [.int r]) S (c_X10_worst l D cy ae τ (xs (x3 + 1).toNatClampNeg) (xs (x3 + 2).toNatClampNeg) (xs (x3 + 3).toNatClampNeg) (r, τ') h2 bw bc H.size) iX10_worst vX10_worst q1385 ⟨Nat.le_of_ble_eq_true rfl, Nat.le_of_ble_eq_true rfl⟩ hK hP2 hD2 (q0 := 0) rfl rfl rfl hl.1 (Nat.le_of_ble_eq_true rfl) dL_law_1351 ⟨by show _ ≤ 600000; omega, by show _ ≤ 7302250; omega⟩) hD2 hP hap.symm hS hA (fun bw bc H locs hP2 hD2 hP hap hS => ?_)
  refine lv_icmp_eq (tgt := 1609) hx hb dL_law_1354 (by decide) (fun _ => ?_) (fun q => absurd rfl q)
  refine W.widen (k := cl + 2) (n := S1 + Pot σ') (by omega) (by omega) ?_
  exact kk _ _ _ _ σ' τ' _ _ ls hrel ⟨hP, hD, hP2, hD2, hap.symm, hS⟩ hl
