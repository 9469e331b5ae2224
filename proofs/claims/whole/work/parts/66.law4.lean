/-! the cases of the law -/
set_option maxRecDepth 100000 in
set_option maxHeartbeats 4000000 in
theorem law_36 {p : Program} {l : Launch} {e : Env} {s : State} {m : MethodId} {below : List Frame} {meth : Method} {c : Code} {D : va_G} {cy : Nat → ClassId} {ad ae : Nat → Nat} {b L i cl S1 : Nat} {xs : Nat → Int32} {x3 : Int32} {aw ac bw bc : Nat} {σ τ : St} {H : Heap} {locs : List Loc} {ls : Array Slot} (S : CallFix p m c cL_law 4 s #[Value.ref b] (lawC :: uw) RL) (hX : va_X b L xs s s.heap) (hbl : b < s.heap.size) (hK : KU D cy s) (ex : x3 = nI i) (h6 : i + 6 ≤ L) (hL : L ≤ 3072) (hcl : cl + 2 ≤ 600000) (hS1 : S1 + 200000 ≤ 7302250) (hR : Rel σ τ) (hI : LawIn D cy s ad ae aw ac bw bc σ τ H locs) (hl : lv_has ls 4 [(0, .ref b), (1, .ref (ad 0)), (2, .ref (ae 0)), (3, .int x3)]) (kk : LawGo p l e s m below meth c D cy ad ae b cl S1 x3) : W p l e room_1 s m #[Value.ref b] below meth c H locs cl (S1 + Pot σ) (lw_Z below #[Value.ref b] s) (F0 m 1359 ls []) := by
  have hx := S.1
  have hb := S.2.1
  have hpl := pot_le hR
  obtain ⟨hP, hD, hP2, hD2, hap, hS⟩ := hI
  have hA : ∀ q : Nat, s.heap.size ≤ q → (fun q : Nat => s.heap.size ≤ q) q := fun _ h => h
  have hbA : ¬ (fun q : Nat => s.heap.size ≤ q) b := Nat.not_le.mpr hbl
  refine lv_aload_n hx hb dL_law_1359 rfl (lv_at hl 1 rfl) ?_
  obtain ⟨r, σ', τ', h1, h2, hrel⟩ := e_shape hR
  have hpot : Pot σ' = Pot σ := by unfold Pot; rw [show gn σ' = gn σ from g_shape σ _ h1]
  refine t_calli (u_runV (rest := []) S (c_X9_shape l D cy ad σ (r, σ') h1 aw ac H.size) iX9_shape vX9_shape q779 ⟨Nat.le_of_ble_eq_true rfl, Nat.le_of_ble_eq_true rfl⟩ hK hP hD (q0 := 0) rfl rfl rfl hl.1 (Nat.le_of_ble_eq_true rfl) dL_law_1360 ⟨by show _ ≤ 600000; omega, by show _ ≤ 7302250; omega⟩) hD hP2 hap hS hA (fun aw ac H locs hP hD hP2 hap hS => ?_)
  refine lv_aload_n hx hb dL_law_1363 rfl (lv_at hl 2 rfl) ?_
  refine t_calli (u_runV (rest := [.int r]) S (c_X10_shape l D cy ae τ (r, τ') h2 bw bc H.size) iX10_shape vX10_shape q1394 ⟨Nat.le_of_ble_eq_true rfl, Nat.le_of_ble_eq_true rfl⟩ hK hP2 hD2 (q0 := 0) rfl rfl rfl hl.1 (Nat.le_of_ble_eq_true rfl) dL_law_1364 ⟨by show _ ≤ 600000; omega, by show _ ≤ 7302250; omega⟩) hD2 hP hap.symm hS hA (fun bw bc H locs hP2 hD2 hP hap hS => ?_)
  refine lv_icmp_eq (tgt := 1609) hx hb dL_law_1367 (by decide) (fun _ => ?_) (fun q => absurd rfl q)
  refine W.widen (k := cl + 2) (n := S1 + Pot σ') (by omega) (by omega) ?_
  exact kk _ _ _ _ σ' τ' _ _ ls hrel ⟨hP, hD, hP2, hD2, hap.symm, hS⟩ hl
set_option maxRecDepth 100000 in
set_option maxHeartbeats 4000000 in
theorem law_37 {p : Program} {l : Launch} {e : Env} {s : State} {m : MethodId} {below : List Frame} {meth : Method} {c : Code} {D : va_G} {cy : Nat → ClassId} {ad ae : Nat → Nat} {b L i cl S1 : Nat} {xs : Nat → Int32} {x3 : Int32} {aw ac bw bc : Nat} {σ τ : St} {H : Heap} {locs : List Loc} {ls : Array Slot} (S : CallFix p m c cL_law 4 s #[Value.ref b] (lawC :: uw) RL) (hX : va_X b L xs s s.heap) (hbl : b < s.heap.size) (hK : KU D cy s) (ex : x3 = nI i) (h6 : i + 6 ≤ L) (hL : L ≤ 3072) (hcl : cl + 2 ≤ 600000) (hS1 : S1 + 200000 ≤ 7302250) (hR : Rel σ τ) (hI : LawIn D cy s ad ae aw ac bw bc σ τ H locs) (hl : lv_has ls 4 [(0, .ref b), (1, .ref (ad 0)), (2, .ref (ae 0)), (3, .int x3)]) (kk : LawGo p l e s m below meth c D cy ad ae b cl S1 x3) : W p l e room_1 s m #[Value.ref b] below meth c H locs cl (S1 + Pot σ) (lw_Z below #[Value.ref b] s) (F0 m 1372 ls []) := by
  have hx := S.1
  have hb := S.2.1
  have hpl := pot_le hR
  obtain ⟨hP, hD, hP2, hD2, hap, hS⟩ := hI
  have hA : ∀ q : Nat, s.heap.size ≤ q → (fun q : Nat => s.heap.size ≤ q) q := fun _ h => h
  have hbA : ¬ (fun q : Nat => s.heap.size ≤ q) b := Nat.not_le.mpr hbl
  refine lv_aload_n hx hb dL_law_1372 rfl (lv_at hl 1 rfl) ?_
  refine lv_aload_n hx hb dL_law_1373 rfl (lv_at hl 0 rfl) ?_
  refine lv_iload_n hx hb dL_law_1374 rfl (lv_at hl 3 rfl) ?_
  refine lv_iconst (v := 1) hx hb dL_law_1375 (by decide) ?_
  refine lv_iadd hx hb dL_law_1376 ?_
  refine va_sld hx hb hX hbl hbA hS (in6 (k := 1) ex (by decide) h6 hL) dL_law_1377 ?_
  refine lv_aload_n hx hb dL_law_1378 rfl (lv_at hl 0 rfl) ?_
  refine lv_iload_n hx hb dL_law_1379 rfl (lv_at hl 3 rfl) ?_
  refine lv_iconst (v := 2) hx hb dL_law_1380 (by decide) ?_
  refine lv_iadd hx hb dL_law_1381 ?_
  refine va_sld hx hb hX hbl hbA hS (in6 (k := 2) ex (by decide) h6 hL) dL_law_1382 ?_
  obtain ⟨r, σ', τ', h1, h2, hrel⟩ := e_corner hR (xs (x3 + 1).toNatClampNeg) (xs (x3 + 2).toNatClampNeg)
  have hpot : Pot σ' = Pot σ := by unfold Pot; rw [show gn σ' = gn σ from g_corner σ (xs (x3 + 1).toNatClampNeg) (xs (x3 + 2).toNatClampNeg) _ h1]
  refine t_calli (u_runV (rest := []) S (c_X9_corner l D cy ad σ (xs (x3 + 1).toNatClampNeg) (xs (x3 + 2).toNatClampNeg) (r, σ') h1 aw ac H.size) iX9_corner vX9_corner q783 ⟨Nat.le_of_ble_eq_true rfl, Nat.le_of_ble_eq_true rfl⟩ hK hP hD (q0 := 0) rfl rfl rfl hl.1 (Nat.le_of_ble_eq_true rfl) dL_law_1383 ⟨by show _ ≤ 600000; omega, by show _ ≤ 7302250; omega⟩) hD hP2 hap hS hA (fun aw ac H locs hP hD hP2 hap hS => ?_)
  refine lv_aload_n hx hb dL_law_1386 rfl (lv_at hl 2 rfl) ?_
  refine lv_aload_n hx hb dL_law_1387 rfl (lv_at hl 0 rfl) ?_
  refine lv_iload_n hx hb dL_law_1388 rfl (lv_at hl 3 rfl) ?_
  refine lv_iconst (v := 1) hx hb dL_law_1389 (by decide) ?_
  refine lv_iadd hx hb dL_law_1390 ?_
  refine va_sld hx hb hX hbl hbA hS (in6 (k := 1) ex (by decide) h6 hL) dL_law_1391 ?_
  refine lv_aload_n hx hb dL_law_1392 rfl (lv_at hl 0 rfl) ?_
  refine lv_iload_n hx hb dL_law_1393 rfl (lv_at hl 3 rfl) ?_
  refine lv_iconst (v := 2) hx hb dL_law_1394 (by decide) ?_
  refine lv_iadd hx hb dL_law_1395 ?_
  refine va_sld hx hb hX hbl hbA hS (in6 (k := 2) ex (by decide) h6 hL) dL_law_1396 ?_
  refine t_calli (u_runV (rest := [.int r]) S (c_X10_corner l D cy ae τ (xs (x3 + 1).toNatClampNeg) (xs (x3 + 2).toNatClampNeg) (r, τ') h2 bw bc H.size) iX10_corner vX10_corner q1398 ⟨Nat.le_of_ble_eq_true rfl, Nat.le_of_ble_eq_true rfl⟩ hK hP2 hD2 (q0 := 0) rfl rfl rfl hl.1 (Nat.le_of_ble_eq_true rfl) dL_law_1397 ⟨by show _ ≤ 600000; omega, by show _ ≤ 7302250; omega⟩) hD2 hP hap.symm hS hA (fun bw bc H locs hP2 hD2 hP hap hS => ?_)
  refine lv_icmp_eq (tgt := 1609) hx hb dL_law_1400 (by decide) (fun _ => ?_) (fun q => absurd rfl q)
  refine W.widen (k := cl + 2) (n := S1 + Pot σ') (by omega) (by omega) ?_
  exact kk _ _ _ _ σ' τ' _ _ ls hrel ⟨hP, hD, hP2, hD2, hap.symm, hS⟩ hl
set_option maxRecDepth 100000 in
set_option maxHeartbeats 4000000 in
theorem law_38 {p : Program} {l : Launch} {e : Env} {s : State} {m : MethodId} {below : List Frame} {meth : Method} {c : Code} {D : va_G} {cy : Nat → ClassId} {ad ae : Nat → Nat} {b L i cl S1 : Nat} {xs : Nat → Int32} {x3 : Int32} {aw ac bw bc : Nat} {σ τ : St} {H : Heap} {locs : List Loc} {ls : Array Slot} (S : CallFix p m c cL_law 4 s #[Value.ref b] (lawC :: uw) RL) (hX : va_X b L xs s s.heap) (hbl : b < s.heap.size) (hK : KU D cy s) (ex : x3 = nI i) (h6 : i + 6 ≤ L) (hL : L ≤ 3072) (hcl : cl + 2 ≤ 600000) (hS1 : S1 + 200000 ≤ 7302250) (hR : Rel σ τ) (hI : LawIn D cy s ad ae aw ac bw bc σ τ H locs) (hl : lv_has ls 4 [(0, .ref b), (1, .ref (ad 0)), (2, .ref (ae 0)), (3, .int x3)]) (kk : LawGo p l e s m below meth c D cy ad ae b cl S1 x3) : W p l e room_1 s m #[Value.ref b] below meth c H locs cl (S1 + Pot σ) (lw_Z below #[Value.ref b] s) (F0 m 1405 ls []) := by
  have hx := S.1
  have hb := S.2.1
  have hpl := pot_le hR
  obtain ⟨hP, hD, hP2, hD2, hap, hS⟩ := hI
  have hA : ∀ q : Nat, s.heap.size ≤ q → (fun q : Nat => s.heap.size ≤ q) q := fun _ h => h
  have hbA : ¬ (fun q : Nat => s.heap.size ≤ q) b := Nat.not_le.mpr hbl
  refine lv_aload_n hx hb dL_law_1405 rfl (lv_at hl 1 rfl) ?_
  obtain ⟨r, τ', h1, h2, hrel⟩ := e_area hR
  refine t_calli (u_runV (rest := []) S (c_X9_area l D cy ad σ r h1 aw ac H.size) iX9_area vX9_area q794 ⟨Nat.le_of_ble_eq_true rfl, Nat.le_of_ble_eq_true rfl⟩ hK hP hD (q0 := 0) rfl rfl rfl hl.1 (Nat.le_of_ble_eq_true rfl) dL_law_1406 ⟨by show _ ≤ 600000; omega, by show _ ≤ 7302250; omega⟩) hD hP2 hap hS hA (fun aw ac H locs hP hD hP2 hap hS => ?_)
  refine lv_aload_n hx hb dL_law_1409 rfl (lv_at hl 2 rfl) ?_
  refine t_calli (u_runV (rest := [.int r]) S (c_X10_area l D cy ae τ (r, τ') h2 bw bc H.size) iX10_area vX10_area q1405 ⟨Nat.le_of_ble_eq_true rfl, Nat.le_of_ble_eq_true rfl⟩ hK hP2 hD2 (q0 := 0) rfl rfl rfl hl.1 (Nat.le_of_ble_eq_true rfl) dL_law_1410 ⟨by show _ ≤ 600000; omega, by show _ ≤ 7302250; omega⟩) hD2 hP hap.symm hS hA (fun bw bc H locs hP2 hD2 hP hap hS => ?_)
  refine lv_icmp_eq (tgt := 1609) hx hb dL_law_1413 (by decide) (fun _ => ?_) (fun q => absurd rfl q)
  refine W.widen (k := cl + 2) (n := S1 + Pot σ) (by omega) (by omega) ?_
  exact kk _ _ _ _ σ τ' _ _ ls hrel ⟨hP, hD, hP2, hD2, hap.symm, hS⟩ hl
set_option maxRecDepth 100000 in
set_option maxHeartbeats 4000000 in
theorem law_39 {p : Program} {l : Launch} {e : Env} {s : State} {m : MethodId} {below : List Frame} {meth : Method} {c : Code} {D : va_G} {cy : Nat → ClassId} {ad ae : Nat → Nat} {b L i cl S1 : Nat} {xs : Nat → Int32} {x3 : Int32} {aw ac bw bc : Nat} {σ τ : St} {H : Heap} {locs : List Loc} {ls : Array Slot} (S : CallFix p m c cL_law 4 s #[Value.ref b] (lawC :: uw) RL) (hX : va_X b L xs s s.heap) (hbl : b < s.heap.size) (hK : KU D cy s) (ex : x3 = nI i) (h6 : i + 6 ≤ L) (hL : L ≤ 3072) (hcl : cl + 2 ≤ 600000) (hS1 : S1 + 200000 ≤ 7302250) (hR : Rel σ τ) (hI : LawIn D cy s ad ae aw ac bw bc σ τ H locs) (hl : lv_has ls 4 [(0, .ref b), (1, .ref (ad 0)), (2, .ref (ae 0)), (3, .int x3)]) (kk : LawGo p l e s m below meth c D cy ad ae b cl S1 x3) : W p l e room_1 s m #[Value.ref b] below meth c H locs cl (S1 + Pot σ) (lw_Z below #[Value.ref b] s) (F0 m 1418 ls []) := by
  have hx := S.1
  have hb := S.2.1
  have hpl := pot_le hR
  obtain ⟨hP, hD, hP2, hD2, hap, hS⟩ := hI
  have hA : ∀ q : Nat, s.heap.size ≤ q → (fun q : Nat => s.heap.size ≤ q) q := fun _ h => h
  have hbA : ¬ (fun q : Nat => s.heap.size ≤ q) b := Nat.not_le.mpr hbl
  refine lv_aload_n hx hb dL_law_1418 rfl (lv_at hl 1 rfl) ?_
  refine lv_aload_n hx hb dL_law_1419 rfl (lv_at hl 0 rfl) ?_
  refine lv_iload_n hx hb dL_law_1420 rfl (lv_at hl 3 rfl) ?_
  refine lv_iconst (v := 1) hx hb dL_law_1421 (by decide) ?_
  refine lv_iadd hx hb dL_law_1422 ?_
  refine va_sld hx hb hX hbl hbA hS (in6 (k := 1) ex (by decide) h6 hL) dL_law_1423 ?_
  obtain ⟨r, τ', h1, h2, hrel⟩ := e_middle hR (xs (x3 + 1).toNatClampNeg)
  refine t_calll (u_runV (rest := []) S (c_X9_middle l D cy ad σ (xs (x3 + 1).toNatClampNeg) r h1 aw ac H.size) iX9_middle vX9_middle q813 ⟨Nat.le_of_ble_eq_true rfl, Nat.le_of_ble_eq_true rfl⟩ hK hP hD (q0 := 0) rfl rfl rfl hl.1 (Nat.le_of_ble_eq_true rfl) dL_law_1424 ⟨by show _ ≤ 600000; omega, by show _ ≤ 7302250; omega⟩) hD hP2 hap hS hA (fun aw ac H locs hP hD hP2 hap hS => ?_)
  refine lv_aload_n hx hb dL_law_1427 rfl (lv_at hl 2 rfl) ?_
  refine lv_aload_n hx hb dL_law_1428 rfl (lv_at hl 0 rfl) ?_
  refine lv_iload_n hx hb dL_law_1429 rfl (lv_at hl 3 rfl) ?_
  refine lv_iconst (v := 1) hx hb dL_law_1430 (by decide) ?_
  refine lv_iadd hx hb dL_law_1431 ?_
  refine va_sld hx hb hX hbl hbA hS (in6 (k := 1) ex (by decide) h6 hL) dL_law_1432 ?_
  refine t_calll (u_runV (rest := [.long r]) S (c_X10_middle l D cy ae τ (xs (x3 + 1).toNatClampNeg) (r, τ') h2 bw bc H.size) iX10_middle vX10_middle q1413 ⟨Nat.le_of_ble_eq_true rfl, Nat.le_of_ble_eq_true rfl⟩ hK hP2 hD2 (q0 := 0) rfl rfl rfl hl.1 (Nat.le_of_ble_eq_true rfl) dL_law_1433 ⟨by show _ ≤ 600000; omega, by show _ ≤ 7302250; omega⟩) hD2 hP hap.symm hS hA (fun bw bc H locs hP2 hD2 hP hap hS => ?_)
  refine W.lcmp hx hb dL_law_1436 ?_
  refine lv_if_eq (tgt := 1609) hx hb dL_law_1437 (by decide) (fun _ => ?_) (fun q => absurd (lgc_refl r) q)
  refine W.widen (k := cl + 2) (n := S1 + Pot σ) (by omega) (by omega) ?_
  exact kk _ _ _ _ σ τ' _ _ ls hrel ⟨hP, hD, hP2, hD2, hap.symm, hS⟩ hl
set_option maxRecDepth 100000 in
set_option maxHeartbeats 4000000 in
theorem law_40 {p : Program} {l : Launch} {e : Env} {s : State} {m : MethodId} {below : List Frame} {meth : Method} {c : Code} {D : va_G} {cy : Nat → ClassId} {ad ae : Nat → Nat} {b L i cl S1 : Nat} {xs : Nat → Int32} {x3 : Int32} {aw ac bw bc : Nat} {σ τ : St} {H : Heap} {locs : List Loc} {ls : Array Slot} (S : CallFix p m c cL_law 4 s #[Value.ref b] (lawC :: uw) RL) (hX : va_X b L xs s s.heap) (hbl : b < s.heap.size) (hK : KU D cy s) (ex : x3 = nI i) (h6 : i + 6 ≤ L) (hL : L ≤ 3072) (hcl : cl + 2 ≤ 600000) (hS1 : S1 + 200000 ≤ 7302250) (hR : Rel σ τ) (hI : LawIn D cy s ad ae aw ac bw bc σ τ H locs) (hl : lv_has ls 4 [(0, .ref b), (1, .ref (ad 0)), (2, .ref (ae 0)), (3, .int x3)]) (kk : LawGo p l e s m below meth c D cy ad ae b cl S1 x3) : W p l e room_1 s m #[Value.ref b] below meth c H locs cl (S1 + Pot σ) (lw_Z below #[Value.ref b] s) (F0 m 1442 ls []) := by
  have hx := S.1
  have hb := S.2.1
  have hpl := pot_le hR
  obtain ⟨hP, hD, hP2, hD2, hap, hS⟩ := hI
  have hA : ∀ q : Nat, s.heap.size ≤ q → (fun q : Nat => s.heap.size ≤ q) q := fun _ h => h
  have hbA : ¬ (fun q : Nat => s.heap.size ≤ q) b := Nat.not_le.mpr hbl
  refine lv_aload_n hx hb dL_law_1442 rfl (lv_at hl 1 rfl) ?_
  refine lv_aload_n hx hb dL_law_1443 rfl (lv_at hl 0 rfl) ?_
  refine lv_iload_n hx hb dL_law_1444 rfl (lv_at hl 3 rfl) ?_
  refine lv_iconst (v := 1) hx hb dL_law_1445 (by decide) ?_
  refine lv_iadd hx hb dL_law_1446 ?_
  refine va_sld hx hb hX hbl hbA hS (in6 (k := 1) ex (by decide) h6 hL) dL_law_1447 ?_
  refine lv_aload_n hx hb dL_law_1448 rfl (lv_at hl 0 rfl) ?_
  refine lv_iload_n hx hb dL_law_1449 rfl (lv_at hl 3 rfl) ?_
  refine lv_iconst (v := 2) hx hb dL_law_1450 (by decide) ?_
  refine lv_iadd hx hb dL_law_1451 ?_
  refine va_sld hx hb hX hbl hbA hS (in6 (k := 2) ex (by decide) h6 hL) dL_law_1452 ?_
  refine lv_aload_n hx hb dL_law_1453 rfl (lv_at hl 0 rfl) ?_
  refine lv_iload_n hx hb dL_law_1454 rfl (lv_at hl 3 rfl) ?_
  refine lv_iconst (v := 3) hx hb dL_law_1455 (by decide) ?_
  refine lv_iadd hx hb dL_law_1456 ?_
  refine va_sld hx hb hX hbl hbA hS (in6 (k := 3) ex (by decide) h6 hL) dL_law_1457 ?_
  refine lv_aload_n hx hb dL_law_1458 rfl (lv_at hl 0 rfl) ?_
  refine lv_iload_n hx hb dL_law_1459 rfl (lv_at hl 3 rfl) ?_
  refine lv_iconst (v := 4) hx hb dL_law_1460 (by decide) ?_
  refine lv_iadd hx hb dL_law_1461 ?_
  refine va_sld hx hb hX hbl hbA hS (in6 (k := 4) ex (by decide) h6 hL) dL_law_1462 ?_
  refine lv_aload_n hx hb dL_law_1463 rfl (lv_at hl 0 rfl) ?_
  refine lv_iload_n hx hb dL_law_1464 rfl (lv_at hl 3 rfl) ?_
  refine lv_iconst (v := 5) hx hb dL_law_1465 (by decide) ?_
  refine lv_iadd hx hb dL_law_1466 ?_
  refine va_sld hx hb hX hbl hbA hS (in6 (k := 5) ex (by decide) h6 hL) dL_law_1467 ?_
  obtain ⟨r, τ', h1, h2, hrel⟩ := e_tilt hR (xs (x3 + 1).toNatClampNeg) (xs (x3 + 2).toNatClampNeg) (xs (x3 + 3).toNatClampNeg) (xs (x3 + 4).toNatClampNeg) (xs (x3 + 5).toNatClampNeg)
  refine t_calll (u_runV (rest := []) S (c_X9_tilt l D cy ad σ (xs (x3 + 1).toNatClampNeg) (xs (x3 + 2).toNatClampNeg) (xs (x3 + 3).toNatClampNeg) (xs (x3 + 4).toNatClampNeg) (xs (x3 + 5).toNatClampNeg) r h1 aw ac H.size) iX9_tilt vX9_tilt q849 ⟨Nat.le_of_ble_eq_true rfl, Nat.le_of_ble_eq_true rfl⟩ hK hP hD (q0 := 0) rfl rfl rfl hl.1 (Nat.le_of_ble_eq_true rfl) dL_law_1468 ⟨by show _ ≤ 600000; omega, by show _ ≤ 7302250; omega⟩) hD hP2 hap hS hA (fun aw ac H locs hP hD hP2 hap hS => ?_)
  refine lv_aload_n hx hb dL_law_1471 rfl (lv_at hl 2 rfl) ?_
  refine lv_aload_n hx hb dL_law_1472 rfl (lv_at hl 0 rfl) ?_
  refine lv_iload_n hx hb dL_law_1473 rfl (lv_at hl 3 rfl) ?_
  refine lv_iconst (v := 1) hx hb dL_law_1474 (by decide) ?_
  refine lv_iadd hx hb dL_law_1475 ?_
  refine va_sld hx hb hX hbl hbA hS (in6 (k := 1) ex (by decide) h6 hL) dL_law_1476 ?_
  refine lv_aload_n hx hb dL_law_1477 rfl (lv_at hl 0 rfl) ?_
  refine lv_iload_n hx hb dL_law_1478 rfl (lv_at hl 3 rfl) ?_
  refine lv_iconst (v := 2) hx hb dL_law_1479 (by decide) ?_
  refine lv_iadd hx hb dL_law_1480 ?_
  refine va_sld hx hb hX hbl hbA hS (in6 (k := 2) ex (by decide) h6 hL) dL_law_1481 ?_
  refine lv_aload_n hx hb dL_law_1482 rfl (lv_at hl 0 rfl) ?_
  refine lv_iload_n hx hb dL_law_1483 rfl (lv_at hl 3 rfl) ?_
  refine lv_iconst (v := 3) hx hb dL_law_1484 (by decide) ?_
  refine lv_iadd hx hb dL_law_1485 ?_
  refine va_sld hx hb hX hbl hbA hS (in6 (k := 3) ex (by decide) h6 hL) dL_law_1486 ?_
  refine lv_aload_n hx hb dL_law_1487 rfl (lv_at hl 0 rfl) ?_
  refine lv_iload_n hx hb dL_law_1488 rfl (lv_at hl 3 rfl) ?_
  refine lv_iconst (v := 4) hx hb dL_law_1489 (by decide) ?_
  refine lv_iadd hx hb dL_law_1490 ?_
  refine va_sld hx hb hX hbl hbA hS (in6 (k := 4) ex (by decide) h6 hL) dL_law_1491 ?_
  refine lv_aload_n hx hb dL_law_1492 rfl (lv_at hl 0 rfl) ?_
  refine lv_iload_n hx hb dL_law_1493 rfl (lv_at hl 3 rfl) ?_
  refine lv_iconst (v := 5) hx hb dL_law_1494 (by decide) ?_
  refine lv_iadd hx hb dL_law_1495 ?_
  refine va_sld hx hb hX hbl hbA hS (in6 (k := 5) ex (by decide) h6 hL) dL_law_1496 ?_
  refine t_calll (u_runV (rest := [.long r]) S (c_X10_tilt l D cy ae τ (xs (x3 + 1).toNatClampNeg) (xs (x3 + 2).toNatClampNeg) (xs (x3 + 3).toNatClampNeg) (xs (x3 + 4).toNatClampNeg) (xs (x3 + 5).toNatClampNeg) (r, τ') h2 bw bc H.size) iX10_tilt vX10_tilt q1428 ⟨Nat.le_of_ble_eq_true rfl, Nat.le_of_ble_eq_true rfl⟩ hK hP2 hD2 (q0 := 0) rfl rfl rfl hl.1 (Nat.le_of_ble_eq_true rfl) dL_law_1497 ⟨by show _ ≤ 600000; omega, by show _ ≤ 7302250; omega⟩) hD2 hP hap.symm hS hA (fun bw bc H locs hP2 hD2 hP hap hS => ?_)
  refine W.lcmp hx hb dL_law_1500 ?_
  refine lv_if_eq (tgt := 1609) hx hb dL_law_1501 (by decide) (fun _ => ?_) (fun q => absurd (lgc_refl r) q)
  refine W.widen (k := cl + 2) (n := S1 + Pot σ) (by omega) (by omega) ?_
  exact kk _ _ _ _ σ τ' _ _ ls hrel ⟨hP, hD, hP2, hD2, hap.symm, hS⟩ hl
set_option maxRecDepth 100000 in
set_option maxHeartbeats 4000000 in
theorem law_41 {p : Program} {l : Launch} {e : Env} {s : State} {m : MethodId} {below : List Frame} {meth : Method} {c : Code} {D : va_G} {cy : Nat → ClassId} {ad ae : Nat → Nat} {b L i cl S1 : Nat} {xs : Nat → Int32} {x3 : Int32} {aw ac bw bc : Nat} {σ τ : St} {H : Heap} {locs : List Loc} {ls : Array Slot} (S : CallFix p m c cL_law 4 s #[Value.ref b] (lawC :: uw) RL) (hX : va_X b L xs s s.heap) (hbl : b < s.heap.size) (hK : KU D cy s) (ex : x3 = nI i) (h6 : i + 6 ≤ L) (hL : L ≤ 3072) (hcl : cl + 2 ≤ 600000) (hS1 : S1 + 200000 ≤ 7302250) (hR : Rel σ τ) (hI : LawIn D cy s ad ae aw ac bw bc σ τ H locs) (hl : lv_has ls 4 [(0, .ref b), (1, .ref (ad 0)), (2, .ref (ae 0)), (3, .int x3)]) (kk : LawGo p l e s m below meth c D cy ad ae b cl S1 x3) : W p l e room_1 s m #[Value.ref b] below meth c H locs cl (S1 + Pot σ) (lw_Z below #[Value.ref b] s) (F0 m 1506 ls []) := by
  have hx := S.1
  have hb := S.2.1
  have hpl := pot_le hR
  obtain ⟨hP, hD, hP2, hD2, hap, hS⟩ := hI
  have hA : ∀ q : Nat, s.heap.size ≤ q → (fun q : Nat => s.heap.size ≤ q) q := fun _ h => h
  have hbA : ¬ (fun q : Nat => s.heap.size ≤ q) b := Nat.not_le.mpr hbl
  refine lv_aload_n hx hb dL_law_1506 rfl (lv_at hl 1 rfl) ?_
  refine lv_aload_n hx hb dL_law_1507 rfl (lv_at hl 0 rfl) ?_
  refine lv_iload_n hx hb dL_law_1508 rfl (lv_at hl 3 rfl) ?_
  refine lv_iconst (v := 1) hx hb dL_law_1509 (by decide) ?_
  refine lv_iadd hx hb dL_law_1510 ?_
  refine va_sld hx hb hX hbl hbA hS (in6 (k := 1) ex (by decide) h6 hL) dL_law_1511 ?_
  refine lv_aload_n hx hb dL_law_1512 rfl (lv_at hl 0 rfl) ?_
  refine lv_iload_n hx hb dL_law_1513 rfl (lv_at hl 3 rfl) ?_
  refine lv_iconst (v := 2) hx hb dL_law_1514 (by decide) ?_
  refine lv_iadd hx hb dL_law_1515 ?_
  refine va_sld hx hb hX hbl hbA hS (in6 (k := 2) ex (by decide) h6 hL) dL_law_1516 ?_
  refine lv_aload_n hx hb dL_law_1517 rfl (lv_at hl 0 rfl) ?_
  refine lv_iload_n hx hb dL_law_1518 rfl (lv_at hl 3 rfl) ?_
  refine lv_iconst (v := 3) hx hb dL_law_1519 (by decide) ?_
  refine lv_iadd hx hb dL_law_1520 ?_
  refine va_sld hx hb hX hbl hbA hS (in6 (k := 3) ex (by decide) h6 hL) dL_law_1521 ?_
  refine lv_aload_n hx hb dL_law_1522 rfl (lv_at hl 0 rfl) ?_
  refine lv_iload_n hx hb dL_law_1523 rfl (lv_at hl 3 rfl) ?_
  refine lv_iconst (v := 4) hx hb dL_law_1524 (by decide) ?_
  refine lv_iadd hx hb dL_law_1525 ?_
  refine va_sld hx hb hX hbl hbA hS (in6 (k := 4) ex (by decide) h6 hL) dL_law_1526 ?_
  obtain ⟨r, τ', h1, h2, hrel⟩ := e_steady hR (xs (x3 + 1).toNatClampNeg) (xs (x3 + 2).toNatClampNeg) (xs (x3 + 3).toNatClampNeg) (xs (x3 + 4).toNatClampNeg)
  refine t_calli (u_runV (rest := []) S (c_X9_steady l D cy ad σ (xs (x3 + 1).toNatClampNeg) (xs (x3 + 2).toNatClampNeg) (xs (x3 + 3).toNatClampNeg) (xs (x3 + 4).toNatClampNeg) r h1 aw ac H.size) iX9_steady vX9_steady q861 ⟨Nat.le_of_ble_eq_true rfl, Nat.le_of_ble_eq_true rfl⟩ hK hP hD (q0 := 0) rfl rfl rfl hl.1 (Nat.le_of_ble_eq_true rfl) dL_law_1527 ⟨by show _ ≤ 600000; omega, by show _ ≤ 7302250; omega⟩) hD hP2 hap hS hA (fun aw ac H locs hP hD hP2 hap hS => ?_)
  refine lv_aload_n hx hb dL_law_1530 rfl (lv_at hl 2 rfl) ?_
  refine lv_aload_n hx hb dL_law_1531 rfl (lv_at hl 0 rfl) ?_
  refine lv_iload_n hx hb dL_law_1532 rfl (lv_at hl 3 rfl) ?_
  refine lv_iconst (v := 1) hx hb dL_law_1533 (by decide) ?_
  refine lv_iadd hx hb dL_law_1534 ?_
  refine va_sld hx hb hX hbl hbA hS (in6 (k := 1) ex (by decide) h6 hL) dL_law_1535 ?_
  refine lv_aload_n hx hb dL_law_1536 rfl (lv_at hl 0 rfl) ?_
  refine lv_iload_n hx hb dL_law_1537 rfl (lv_at hl 3 rfl) ?_
  refine lv_iconst (v := 2) hx hb dL_law_1538 (by decide) ?_
  refine lv_iadd hx hb dL_law_1539 ?_
  refine va_sld hx hb hX hbl hbA hS (in6 (k := 2) ex (by decide) h6 hL) dL_law_1540 ?_
  refine lv_aload_n hx hb dL_law_1541 rfl (lv_at hl 0 rfl) ?_
  refine lv_iload_n hx hb dL_law_1542 rfl (lv_at hl 3 rfl) ?_
  refine lv_iconst (v := 3) hx hb dL_law_1543 (by decide) ?_
  refine lv_iadd hx hb dL_law_1544 ?_
  refine va_sld hx hb hX hbl hbA hS (in6 (k := 3) ex (by decide) h6 hL) dL_law_1545 ?_
  refine lv_aload_n hx hb dL_law_1546 rfl (lv_at hl 0 rfl) ?_
  refine lv_iload_n hx hb dL_law_1547 rfl (lv_at hl 3 rfl) ?_
  refine lv_iconst (v := 4) hx hb dL_law_1548 (by decide) ?_
  refine lv_iadd hx hb dL_law_1549 ?_
  refine va_sld hx hb hX hbl hbA hS (in6 (k := 4) ex (by decide) h6 hL) dL_law_1550 ?_
  refine t_calli (u_runV (rest := [.int r]) S (c_X10_steady l D cy ae τ (xs (x3 + 1).toNatClampNeg) (xs (x3 + 2).toNatClampNeg) (xs (x3 + 3).toNatClampNeg) (xs (x3 + 4).toNatClampNeg) (r, τ') h2 bw bc H.size) iX10_steady vX10_steady q1437 ⟨Nat.le_of_ble_eq_true rfl, Nat.le_of_ble_eq_true rfl⟩ hK hP2 hD2 (q0 := 0) rfl rfl rfl hl.1 (Nat.le_of_ble_eq_true rfl) dL_law_1551 ⟨by show _ ≤ 600000; omega, by show _ ≤ 7302250; omega⟩) hD2 hP hap.symm hS hA (fun bw bc H locs hP2 hD2 hP hap hS => ?_)
  refine lv_icmp_eq (tgt := 1609) hx hb dL_law_1554 (by decide) (fun _ => ?_) (fun q => absurd rfl q)
  refine W.widen (k := cl + 2) (n := S1 + Pot σ) (by omega) (by omega) ?_
  exact kk _ _ _ _ σ τ' _ _ ls hrel ⟨hP, hD, hP2, hD2, hap.symm, hS⟩ hl
set_option maxRecDepth 100000 in
set_option maxHeartbeats 4000000 in
theorem law_42 {p : Program} {l : Launch} {e : Env} {s : State} {m : MethodId} {below : List Frame} {meth : Method} {c : Code} {D : va_G} {cy : Nat → ClassId} {ad ae : Nat → Nat} {b L i cl S1 : Nat} {xs : Nat → Int32} {x3 : Int32} {aw ac bw bc : Nat} {σ τ : St} {H : Heap} {locs : List Loc} {ls : Array Slot} (S : CallFix p m c cL_law 4 s #[Value.ref b] (lawC :: uw) RL) (hX : va_X b L xs s s.heap) (hbl : b < s.heap.size) (hK : KU D cy s) (ex : x3 = nI i) (h6 : i + 6 ≤ L) (hL : L ≤ 3072) (hcl : cl + 2 ≤ 600000) (hS1 : S1 + 200000 ≤ 7302250) (hR : Rel σ τ) (hI : LawIn D cy s ad ae aw ac bw bc σ τ H locs) (hl : lv_has ls 4 [(0, .ref b), (1, .ref (ad 0)), (2, .ref (ae 0)), (3, .int x3)]) (kk : LawGo p l e s m below meth c D cy ad ae b cl S1 x3) : W p l e room_1 s m #[Value.ref b] below meth c H locs cl (S1 + Pot σ) (lw_Z below #[Value.ref b] s) (F0 m 1559 ls []) := by
  have hx := S.1
  have hb := S.2.1
  have hpl := pot_le hR
  obtain ⟨hP, hD, hP2, hD2, hap, hS⟩ := hI
  have hA : ∀ q : Nat, s.heap.size ≤ q → (fun q : Nat => s.heap.size ≤ q) q := fun _ h => h
  have hbA : ¬ (fun q : Nat => s.heap.size ≤ q) b := Nat.not_le.mpr hbl
  refine lv_aload_n hx hb dL_law_1559 rfl (lv_at hl 1 rfl) ?_
  obtain ⟨r, τ', h1, h2, hrel⟩ := e_holes hR
  refine t_calli (u_runV (rest := []) S (c_X9_holes l D cy ad σ r h1 aw ac H.size) iX9_holes vX9_holes q872 ⟨Nat.le_of_ble_eq_true rfl, Nat.le_of_ble_eq_true rfl⟩ hK hP hD (q0 := 0) rfl rfl rfl hl.1 (Nat.le_of_ble_eq_true rfl) dL_law_1560 ⟨by show _ ≤ 600000; omega, by show _ ≤ 7302250; omega⟩) hD hP2 hap hS hA (fun aw ac H locs hP hD hP2 hap hS => ?_)
  refine lv_aload_n hx hb dL_law_1563 rfl (lv_at hl 2 rfl) ?_
  refine t_calli (u_runV (rest := [.int r]) S (c_X10_holes l D cy ae τ (r, τ') h2 bw bc H.size) iX10_holes vX10_holes q1445 ⟨Nat.le_of_ble_eq_true rfl, Nat.le_of_ble_eq_true rfl⟩ hK hP2 hD2 (q0 := 0) rfl rfl rfl hl.1 (Nat.le_of_ble_eq_true rfl) dL_law_1564 ⟨by show _ ≤ 600000; omega, by show _ ≤ 7302250; omega⟩) hD2 hP hap.symm hS hA (fun bw bc H locs hP2 hD2 hP hap hS => ?_)
  refine lv_icmp_eq (tgt := 1609) hx hb dL_law_1567 (by decide) (fun _ => ?_) (fun q => absurd rfl q)
  refine W.widen (k := cl + 2) (n := S1 + Pot σ) (by omega) (by omega) ?_
  exact kk _ _ _ _ σ τ' _ _ ls hrel ⟨hP, hD, hP2, hD2, hap.symm, hS⟩ hl
set_option maxRecDepth 100000 in
set_option maxHeartbeats 4000000 in
theorem law_43 {p : Program} {l : Launch} {e : Env} {s : State} {m : MethodId} {below : List Frame} {meth : Method} {c : Code} {D : va_G} {cy : Nat → ClassId} {ad ae : Nat → Nat} {b L i cl S1 : Nat} {xs : Nat → Int32} {x3 : Int32} {aw ac bw bc : Nat} {σ τ : St} {H : Heap} {locs : List Loc} {ls : Array Slot} (S : CallFix p m c cL_law 4 s #[Value.ref b] (lawC :: uw) RL) (hX : va_X b L xs s s.heap) (hbl : b < s.heap.size) (hK : KU D cy s) (ex : x3 = nI i) (h6 : i + 6 ≤ L) (hL : L ≤ 3072) (hcl : cl + 2 ≤ 600000) (hS1 : S1 + 200000 ≤ 7302250) (hR : Rel σ τ) (hI : LawIn D cy s ad ae aw ac bw bc σ τ H locs) (hl : lv_has ls 4 [(0, .ref b), (1, .ref (ad 0)), (2, .ref (ae 0)), (3, .int x3)]) (kk : LawGo p l e s m below meth c D cy ad ae b cl S1 x3) : W p l e room_1 s m #[Value.ref b] below meth c H locs cl (S1 + Pot σ) (lw_Z below #[Value.ref b] s) (F0 m 1572 ls []) := by
  have hx := S.1
  have hb := S.2.1
  have hpl := pot_le hR
  obtain ⟨hP, hD, hP2, hD2, hap, hS⟩ := hI
  have hA : ∀ q : Nat, s.heap.size ≤ q → (fun q : Nat => s.heap.size ≤ q) q := fun _ h => h
  have hbA : ¬ (fun q : Nat => s.heap.size ≤ q) b := Nat.not_le.mpr hbl
  refine lv_aload_n hx hb dL_law_1572 rfl (lv_at hl 1 rfl) ?_
  refine lv_aload_n hx hb dL_law_1573 rfl (lv_at hl 0 rfl) ?_
  refine lv_iload_n hx hb dL_law_1574 rfl (lv_at hl 3 rfl) ?_
  refine lv_iconst (v := 1) hx hb dL_law_1575 (by decide) ?_
  refine lv_iadd hx hb dL_law_1576 ?_
  refine va_sld hx hb hX hbl hbA hS (in6 (k := 1) ex (by decide) h6 hL) dL_law_1577 ?_
  obtain ⟨r, h1, h2⟩ := e_count hR (xs (x3 + 1).toNatClampNeg)
  refine t_calli (u_runV (rest := []) S (c_X9_count l D cy ad σ (xs (x3 + 1).toNatClampNeg) r h1 aw ac H.size) iX9_count vX9_count q882 ⟨Nat.le_of_ble_eq_true rfl, Nat.le_of_ble_eq_true rfl⟩ hK hP hD (q0 := 0) rfl rfl rfl hl.1 (Nat.le_of_ble_eq_true rfl) dL_law_1578 ⟨by show _ ≤ 600000; omega, by show _ ≤ 7302250; omega⟩) hD hP2 hap hS hA (fun aw ac H locs hP hD hP2 hap hS => ?_)
  refine lv_aload_n hx hb dL_law_1581 rfl (lv_at hl 2 rfl) ?_
  refine lv_aload_n hx hb dL_law_1582 rfl (lv_at hl 0 rfl) ?_
  refine lv_iload_n hx hb dL_law_1583 rfl (lv_at hl 3 rfl) ?_
  refine lv_iconst (v := 1) hx hb dL_law_1584 (by decide) ?_
  refine lv_iadd hx hb dL_law_1585 ?_
  refine va_sld hx hb hX hbl hbA hS (in6 (k := 1) ex (by decide) h6 hL) dL_law_1586 ?_
  refine t_calli (u_runV (rest := [.int r]) S (c_X10_count l D cy ae τ (xs (x3 + 1).toNatClampNeg) r h2 bw bc H.size) iX10_count vX10_count q1449 ⟨Nat.le_of_ble_eq_true rfl, Nat.le_of_ble_eq_true rfl⟩ hK hP2 hD2 (q0 := 0) rfl rfl rfl hl.1 (Nat.le_of_ble_eq_true rfl) dL_law_1587 ⟨by show _ ≤ 600000; omega, by show _ ≤ 7302250; omega⟩) hD2 hP hap.symm hS hA (fun bw bc H locs hP2 hD2 hP hap hS => ?_)
  refine lv_icmp_eq (tgt := 1609) hx hb dL_law_1590 (by decide) (fun _ => ?_) (fun q => absurd rfl q)
  refine W.widen (k := cl + 2) (n := S1 + Pot σ) (by omega) (by omega) ?_
  exact kk _ _ _ _ σ τ _ _ ls hR ⟨hP, hD, hP2, hD2, hap.symm, hS⟩ hl
set_option maxRecDepth 100000 in
set_option maxHeartbeats 4000000 in
theorem law_44 {p : Program} {l : Launch} {e : Env} {s : State} {m : MethodId} {below : List Frame} {meth : Method} {c : Code} {D : va_G} {cy : Nat → ClassId} {ad ae : Nat → Nat} {b L i cl S1 : Nat} {xs : Nat → Int32} {x3 : Int32} {aw ac bw bc : Nat} {σ τ : St} {H : Heap} {locs : List Loc} {ls : Array Slot} (S : CallFix p m c cL_law 4 s #[Value.ref b] (lawC :: uw) RL) (hX : va_X b L xs s s.heap) (hbl : b < s.heap.size) (hK : KU D cy s) (ex : x3 = nI i) (h6 : i + 6 ≤ L) (hL : L ≤ 3072) (hcl : cl + 2 ≤ 600000) (hS1 : S1 + 200000 ≤ 7302250) (hR : Rel σ τ) (hI : LawIn D cy s ad ae aw ac bw bc σ τ H locs) (hl : lv_has ls 4 [(0, .ref b), (1, .ref (ad 0)), (2, .ref (ae 0)), (3, .int x3)]) (kk : LawGo p l e s m below meth c D cy ad ae b cl S1 x3) : W p l e room_1 s m #[Value.ref b] below meth c H locs cl (S1 + Pot σ) (lw_Z below #[Value.ref b] s) (F0 m 1595 ls []) := by
  have hx := S.1
  have hb := S.2.1
  have hpl := pot_le hR
  obtain ⟨hP, hD, hP2, hD2, hap, hS⟩ := hI
  have hA : ∀ q : Nat, s.heap.size ≤ q → (fun q : Nat => s.heap.size ≤ q) q := fun _ h => h
  have hbA : ¬ (fun q : Nat => s.heap.size ≤ q) b := Nat.not_le.mpr hbl
  refine lv_aload_n hx hb dL_law_1595 rfl (lv_at hl 1 rfl) ?_
  obtain ⟨r, τ', h1, h2, hrel⟩ := e_digest hR
  refine t_calll (u_runV (rest := []) S (c_X9_digest l D cy ad σ r h1 aw ac H.size) iX9_digest vX9_digest q890 ⟨Nat.le_of_ble_eq_true rfl, Nat.le_of_ble_eq_true rfl⟩ hK hP hD (q0 := 0) rfl rfl rfl hl.1 (Nat.le_of_ble_eq_true rfl) dL_law_1596 ⟨by show _ ≤ 600000; omega, by show _ ≤ 7302250; omega⟩) hD hP2 hap hS hA (fun aw ac H locs hP hD hP2 hap hS => ?_)
  refine lv_aload_n hx hb dL_law_1599 rfl (lv_at hl 2 rfl) ?_
  refine t_calll (u_runV (rest := [.long r]) S (c_X10_digest l D cy ae τ (r, τ') h2 bw bc H.size) iX10_digest vX10_digest q1457 ⟨Nat.le_of_ble_eq_true rfl, Nat.le_of_ble_eq_true rfl⟩ hK hP2 hD2 (q0 := 0) rfl rfl rfl hl.1 (Nat.le_of_ble_eq_true rfl) dL_law_1600 ⟨by show _ ≤ 600000; omega, by show _ ≤ 7302250; omega⟩) hD2 hP hap.symm hS hA (fun bw bc H locs hP2 hD2 hP hap hS => ?_)
  refine W.lcmp hx hb dL_law_1603 ?_
  refine lv_if_eq (tgt := 1609) hx hb dL_law_1604 (by decide) (fun _ => ?_) (fun q => absurd (lgc_refl r) q)
  refine W.widen (k := cl + 2) (n := S1 + Pot σ) (by omega) (by omega) ?_
  exact kk _ _ _ _ σ τ' _ _ ls hrel ⟨hP, hD, hP2, hD2, hap.symm, hS⟩ hl
