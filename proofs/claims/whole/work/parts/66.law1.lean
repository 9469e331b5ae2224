/-! the cases of the law -/
set_option maxRecDepth 100000 in
set_option maxHeartbeats 4000000 in
theorem law_0 {p : Program} {l : Launch} {e : Env} {s : State} {m : MethodId} {below : List Frame} {meth : Method} {c : Code} {D : va_G} {cy : Nat → ClassId} {ad ae : Nat → Nat} {b L i cl S1 : Nat} {xs : Nat → Int32} {x3 : Int32} {aw ac bw bc : Nat} {σ τ : St} {H : Heap} {locs : List Loc} {ls : Array Slot} (S : CallFix p m c cL_law 4 s #[Value.ref b] (lawC :: uw) RL) (hX : va_X b L xs s s.heap) (hbl : b < s.heap.size) (hK : KU D cy s) (ex : x3 = nI i) (h6 : i + 6 ≤ L) (hL : L ≤ 3072) (hcl : cl + 2 ≤ 600000) (hS1 : S1 + 200000 ≤ 7302250) (hR : Rel σ τ) (hI : LawIn D cy s ad ae aw ac bw bc σ τ H locs) (hl : lv_has ls 4 [(0, .ref b), (1, .ref (ad 0)), (2, .ref (ae 0)), (3, .int x3)]) (kk : LawGo p l e s m below meth c D cy ad ae b cl S1 x3) : W p l e room_1 s m #[Value.ref b] below meth c H locs cl (S1 + Pot σ) (lw_Z below #[Value.ref b] s) (F0 m 228 ls []) := by
  have hx := S.1
  have hb := S.2.1
  have hpl := pot_le hR
  obtain ⟨hP, hD, hP2, hD2, hap, hS⟩ := hI
  have hA : ∀ q : Nat, s.heap.size ≤ q → (fun q : Nat => s.heap.size ≤ q) q := fun _ h => h
  have hbA : ¬ (fun q : Nat => s.heap.size ≤ q) b := Nat.not_le.mpr hbl
  refine lv_aload_n hx hb dL_law_228 rfl (lv_at hl 1 rfl) ?_
  refine lv_aload_n hx hb dL_law_229 rfl (lv_at hl 0 rfl) ?_
  refine lv_iload_n hx hb dL_law_230 rfl (lv_at hl 3 rfl) ?_
  refine lv_iconst (v := 1) hx hb dL_law_231 (by decide) ?_
  refine lv_iadd hx hb dL_law_232 ?_
  refine va_sld hx hb hX hbl hbA hS (in6 (k := 1) ex (by decide) h6 hL) dL_law_233 ?_
  refine lv_aload_n hx hb dL_law_234 rfl (lv_at hl 0 rfl) ?_
  refine lv_iload_n hx hb dL_law_235 rfl (lv_at hl 3 rfl) ?_
  refine lv_iconst (v := 2) hx hb dL_law_236 (by decide) ?_
  refine lv_iadd hx hb dL_law_237 ?_
  refine va_sld hx hb hX hbl hbA hS (in6 (k := 2) ex (by decide) h6 hL) dL_law_238 ?_
  refine lv_aload_n hx hb dL_law_239 rfl (lv_at hl 0 rfl) ?_
  refine lv_iload_n hx hb dL_law_240 rfl (lv_at hl 3 rfl) ?_
  refine lv_iconst (v := 3) hx hb dL_law_241 (by decide) ?_
  refine lv_iadd hx hb dL_law_242 ?_
  refine va_sld hx hb hX hbl hbA hS (in6 (k := 3) ex (by decide) h6 hL) dL_law_243 ?_
  refine lv_aload_n hx hb dL_law_244 rfl (lv_at hl 0 rfl) ?_
  refine lv_iload_n hx hb dL_law_245 rfl (lv_at hl 3 rfl) ?_
  refine lv_iconst (v := 4) hx hb dL_law_246 (by decide) ?_
  refine lv_iadd hx hb dL_law_247 ?_
  refine va_sld hx hb hX hbl hbA hS (in6 (k := 4) ex (by decide) h6 hL) dL_law_248 ?_
  obtain ⟨r, σ', τ', h1, h2, hrel⟩ := e_wheel hR (xs (x3 + 1).toNatClampNeg) (xs (x3 + 2).toNatClampNeg) (xs (x3 + 3).toNatClampNeg) (xs (x3 + 4).toNatClampNeg)
  have hpot : Pot σ' = Pot σ := by unfold Pot; rw [show gn σ' = gn σ from g_wheel σ (xs (x3 + 1).toNatClampNeg) (xs (x3 + 2).toNatClampNeg) (xs (x3 + 3).toNatClampNeg) (xs (x3 + 4).toNatClampNeg) _ h1]
  refine t_calli (u_runV (rest := []) S (c_X9_wheel l D cy ad σ (xs (x3 + 1).toNatClampNeg) (xs (x3 + 2).toNatClampNeg) (xs (x3 + 3).toNatClampNeg) (xs (x3 + 4).toNatClampNeg) (r, σ') h1 aw ac H.size) iX9_wheel vX9_wheel q321 ⟨Nat.le_of_ble_eq_true rfl, Nat.le_of_ble_eq_true rfl⟩ hK hP hD (q0 := 0) rfl rfl rfl hl.1 (Nat.le_of_ble_eq_true rfl) dL_law_249 ⟨by show _ ≤ 600000; omega, by show _ ≤ 7302250; omega⟩) hD hP2 hap hS hA (fun aw ac H locs hP hD hP2 hap hS => ?_)
  refine lv_aload_n hx hb dL_law_252 rfl (lv_at hl 2 rfl) ?_
  refine lv_aload_n hx hb dL_law_253 rfl (lv_at hl 0 rfl) ?_
  refine lv_iload_n hx hb dL_law_254 rfl (lv_at hl 3 rfl) ?_
  refine lv_iconst (v := 1) hx hb dL_law_255 (by decide) ?_
  refine lv_iadd hx hb dL_law_256 ?_
  refine va_sld hx hb hX hbl hbA hS (in6 (k := 1) ex (by decide) h6 hL) dL_law_257 ?_
  refine lv_aload_n hx hb dL_law_258 rfl (lv_at hl 0 rfl) ?_
  refine lv_iload_n hx hb dL_law_259 rfl (lv_at hl 3 rfl) ?_
  refine lv_iconst (v := 2) hx hb dL_law_260 (by decide) ?_
  refine lv_iadd hx hb dL_law_261 ?_
  refine va_sld hx hb hX hbl hbA hS (in6 (k := 2) ex (by decide) h6 hL) dL_law_262 ?_
  refine lv_aload_n hx hb dL_law_263 rfl (lv_at hl 0 rfl) ?_
  refine lv_iload_n hx hb dL_law_264 rfl (lv_at hl 3 rfl) ?_
  refine lv_iconst (v := 3) hx hb dL_law_265 (by decide) ?_
  refine lv_iadd hx hb dL_law_266 ?_
  refine va_sld hx hb hX hbl hbA hS (in6 (k := 3) ex (by decide) h6 hL) dL_law_267 ?_
  refine lv_aload_n hx hb dL_law_268 rfl (lv_at hl 0 rfl) ?_
  refine lv_iload_n hx hb dL_law_269 rfl (lv_at hl 3 rfl) ?_
  refine lv_iconst (v := 4) hx hb dL_law_270 (by decide) ?_
  refine lv_iadd hx hb dL_law_271 ?_
  refine va_sld hx hb hX hbl hbA hS (in6 (k := 4) ex (by decide) h6 hL) dL_law_272 ?_
  refine t_calli (u_runV (rest := [.int r]) S (c_X10_wheel l D cy ae τ (xs (x3 + 1).toNatClampNeg) (xs (x3 + 2).toNatClampNeg) (xs (x3 + 3).toNatClampNeg) (xs (x3 + 4).toNatClampNeg) (r, τ') h2 bw bc H.size) iX10_wheel vX10_wheel q1105 ⟨Nat.le_of_ble_eq_true rfl, Nat.le_of_ble_eq_true rfl⟩ hK hP2 hD2 (q0 := 0) rfl rfl rfl hl.1 (Nat.le_of_ble_eq_true rfl) dL_law_273 ⟨by show _ ≤ 600000; omega, by show _ ≤ 7302250; omega⟩) hD2 hP hap.symm hS hA (fun bw bc H locs hP2 hD2 hP hap hS => ?_)
  refine lv_icmp_eq (tgt := 1609) hx hb dL_law_276 (by decide) (fun _ => ?_) (fun q => absurd rfl q)
  refine W.widen (k := cl + 2) (n := S1 + Pot σ') (by omega) (by omega) ?_
  exact kk _ _ _ _ σ' τ' _ _ ls hrel ⟨hP, hD, hP2, hD2, hap.symm, hS⟩ hl
set_option maxRecDepth 100000 in
set_option maxHeartbeats 4000000 in
theorem law_1 {p : Program} {l : Launch} {e : Env} {s : State} {m : MethodId} {below : List Frame} {meth : Method} {c : Code} {D : va_G} {cy : Nat → ClassId} {ad ae : Nat → Nat} {b L i cl S1 : Nat} {xs : Nat → Int32} {x3 : Int32} {aw ac bw bc : Nat} {σ τ : St} {H : Heap} {locs : List Loc} {ls : Array Slot} (S : CallFix p m c cL_law 4 s #[Value.ref b] (lawC :: uw) RL) (hX : va_X b L xs s s.heap) (hbl : b < s.heap.size) (hK : KU D cy s) (ex : x3 = nI i) (h6 : i + 6 ≤ L) (hL : L ≤ 3072) (hcl : cl + 2 ≤ 600000) (hS1 : S1 + 200000 ≤ 7302250) (hR : Rel σ τ) (hI : LawIn D cy s ad ae aw ac bw bc σ τ H locs) (hl : lv_has ls 4 [(0, .ref b), (1, .ref (ad 0)), (2, .ref (ae 0)), (3, .int x3)]) (kk : LawGo p l e s m below meth c D cy ad ae b cl S1 x3) : W p l e room_1 s m #[Value.ref b] below meth c H locs cl (S1 + Pot σ) (lw_Z below #[Value.ref b] s) (F0 m 281 ls []) := by
  have hx := S.1
  have hb := S.2.1
  have hpl := pot_le hR
  obtain ⟨hP, hD, hP2, hD2, hap, hS⟩ := hI
  have hA : ∀ q : Nat, s.heap.size ≤ q → (fun q : Nat => s.heap.size ≤ q) q := fun _ h => h
  have hbA : ¬ (fun q : Nat => s.heap.size ≤ q) b := Nat.not_le.mpr hbl
  refine lv_aload_n hx hb dL_law_281 rfl (lv_at hl 1 rfl) ?_
  refine lv_aload_n hx hb dL_law_282 rfl (lv_at hl 0 rfl) ?_
  refine lv_iload_n hx hb dL_law_283 rfl (lv_at hl 3 rfl) ?_
  refine lv_iconst (v := 1) hx hb dL_law_284 (by decide) ?_
  refine lv_iadd hx hb dL_law_285 ?_
  refine va_sld hx hb hX hbl hbA hS (in6 (k := 1) ex (by decide) h6 hL) dL_law_286 ?_
  refine lv_aload_n hx hb dL_law_287 rfl (lv_at hl 0 rfl) ?_
  refine lv_iload_n hx hb dL_law_288 rfl (lv_at hl 3 rfl) ?_
  refine lv_iconst (v := 2) hx hb dL_law_289 (by decide) ?_
  refine lv_iadd hx hb dL_law_290 ?_
  refine va_sld hx hb hX hbl hbA hS (in6 (k := 2) ex (by decide) h6 hL) dL_law_291 ?_
  obtain ⟨r, σ', τ', h1, h2, hrel⟩ := e_winds hR (xs (x3 + 1).toNatClampNeg) (xs (x3 + 2).toNatClampNeg)
  have hpot : Pot σ' = Pot σ := by unfold Pot; rw [show gn σ' = gn σ from g_winds σ (xs (x3 + 1).toNatClampNeg) (xs (x3 + 2).toNatClampNeg) _ h1]
  refine t_calli (u_runV (rest := []) S (c_X9_winds l D cy ad σ (xs (x3 + 1).toNatClampNeg) (xs (x3 + 2).toNatClampNeg) (r, σ') h1 aw ac H.size) iX9_winds vX9_winds q328 ⟨Nat.le_of_ble_eq_true rfl, Nat.le_of_ble_eq_true rfl⟩ hK hP hD (q0 := 0) rfl rfl rfl hl.1 (Nat.le_of_ble_eq_true rfl) dL_law_292 ⟨by show _ ≤ 600000; omega, by show _ ≤ 7302250; omega⟩) hD hP2 hap hS hA (fun aw ac H locs hP hD hP2 hap hS => ?_)
  refine lv_aload_n hx hb dL_law_295 rfl (lv_at hl 2 rfl) ?_
  refine lv_aload_n hx hb dL_law_296 rfl (lv_at hl 0 rfl) ?_
  refine lv_iload_n hx hb dL_law_297 rfl (lv_at hl 3 rfl) ?_
  refine lv_iconst (v := 1) hx hb dL_law_298 (by decide) ?_
  refine lv_iadd hx hb dL_law_299 ?_
  refine va_sld hx hb hX hbl hbA hS (in6 (k := 1) ex (by decide) h6 hL) dL_law_300 ?_
  refine lv_aload_n hx hb dL_law_301 rfl (lv_at hl 0 rfl) ?_
  refine lv_iload_n hx hb dL_law_302 rfl (lv_at hl 3 rfl) ?_
  refine lv_iconst (v := 2) hx hb dL_law_303 (by decide) ?_
  refine lv_iadd hx hb dL_law_304 ?_
  refine va_sld hx hb hX hbl hbA hS (in6 (k := 2) ex (by decide) h6 hL) dL_law_305 ?_
  refine t_calli (u_runV (rest := [.int r]) S (c_X10_winds l D cy ae τ (xs (x3 + 1).toNatClampNeg) (xs (x3 + 2).toNatClampNeg) (r, τ') h2 bw bc H.size) iX10_winds vX10_winds q1117 ⟨Nat.le_of_ble_eq_true rfl, Nat.le_of_ble_eq_true rfl⟩ hK hP2 hD2 (q0 := 0) rfl rfl rfl hl.1 (Nat.le_of_ble_eq_true rfl) dL_law_306 ⟨by show _ ≤ 600000; omega, by show _ ≤ 7302250; omega⟩) hD2 hP hap.symm hS hA (fun bw bc H locs hP2 hD2 hP hap hS => ?_)
  refine lv_icmp_eq (tgt := 1609) hx hb dL_law_309 (by decide) (fun _ => ?_) (fun q => absurd rfl q)
  refine W.widen (k := cl + 2) (n := S1 + Pot σ') (by omega) (by omega) ?_
  exact kk _ _ _ _ σ' τ' _ _ ls hrel ⟨hP, hD, hP2, hD2, hap.symm, hS⟩ hl
set_option maxRecDepth 100000 in
set_option maxHeartbeats 4000000 in
theorem law_2 {p : Program} {l : Launch} {e : Env} {s : State} {m : MethodId} {below : List Frame} {meth : Method} {c : Code} {D : va_G} {cy : Nat → ClassId} {ad ae : Nat → Nat} {b L i cl S1 : Nat} {xs : Nat → Int32} {x3 : Int32} {aw ac bw bc : Nat} {σ τ : St} {H : Heap} {locs : List Loc} {ls : Array Slot} (S : CallFix p m c cL_law 4 s #[Value.ref b] (lawC :: uw) RL) (hX : va_X b L xs s s.heap) (hbl : b < s.heap.size) (hK : KU D cy s) (ex : x3 = nI i) (h6 : i + 6 ≤ L) (hL : L ≤ 3072) (hcl : cl + 2 ≤ 600000) (hS1 : S1 + 200000 ≤ 7302250) (hR : Rel σ τ) (hI : LawIn D cy s ad ae aw ac bw bc σ τ H locs) (hl : lv_has ls 4 [(0, .ref b), (1, .ref (ad 0)), (2, .ref (ae 0)), (3, .int x3)]) (kk : LawGo p l e s m below meth c D cy ad ae b cl S1 x3) : W p l e room_1 s m #[Value.ref b] below meth c H locs cl (S1 + Pot σ) (lw_Z below #[Value.ref b] s) (F0 m 314 ls []) := by
  have hx := S.1
  have hb := S.2.1
  have hpl := pot_le hR
  obtain ⟨hP, hD, hP2, hD2, hap, hS⟩ := hI
  have hA : ∀ q : Nat, s.heap.size ≤ q → (fun q : Nat => s.heap.size ≤ q) q := fun _ h => h
  have hbA : ¬ (fun q : Nat => s.heap.size ≤ q) b := Nat.not_le.mpr hbl
  refine lv_aload_n hx hb dL_law_314 rfl (lv_at hl 1 rfl) ?_
  refine lv_aload_n hx hb dL_law_315 rfl (lv_at hl 0 rfl) ?_
  refine lv_iload_n hx hb dL_law_316 rfl (lv_at hl 3 rfl) ?_
  refine lv_iconst (v := 1) hx hb dL_law_317 (by decide) ?_
  refine lv_iadd hx hb dL_law_318 ?_
  refine va_sld hx hb hX hbl hbA hS (in6 (k := 1) ex (by decide) h6 hL) dL_law_319 ?_
  obtain ⟨r, h1, h2⟩ := e_lift hR (xs (x3 + 1).toNatClampNeg)
  refine t_calli (u_runV (rest := []) S (c_X9_lift l D cy ad σ (xs (x3 + 1).toNatClampNeg) r h1 aw ac H.size) iX9_lift vX9_lift q332 ⟨Nat.le_of_ble_eq_true rfl, Nat.le_of_ble_eq_true rfl⟩ hK hP hD (q0 := 0) rfl rfl rfl hl.1 (Nat.le_of_ble_eq_true rfl) dL_law_320 ⟨by show _ ≤ 600000; omega, by show _ ≤ 7302250; omega⟩) hD hP2 hap hS hA (fun aw ac H locs hP hD hP2 hap hS => ?_)
  refine lv_aload_n hx hb dL_law_323 rfl (lv_at hl 2 rfl) ?_
  refine lv_aload_n hx hb dL_law_324 rfl (lv_at hl 0 rfl) ?_
  refine lv_iload_n hx hb dL_law_325 rfl (lv_at hl 3 rfl) ?_
  refine lv_iconst (v := 1) hx hb dL_law_326 (by decide) ?_
  refine lv_iadd hx hb dL_law_327 ?_
  refine va_sld hx hb hX hbl hbA hS (in6 (k := 1) ex (by decide) h6 hL) dL_law_328 ?_
  refine t_calli (u_runV (rest := [.int r]) S (c_X10_lift l D cy ae τ (xs (x3 + 1).toNatClampNeg) r h2 bw bc H.size) iX10_lift vX10_lift q1122 ⟨Nat.le_of_ble_eq_true rfl, Nat.le_of_ble_eq_true rfl⟩ hK hP2 hD2 (q0 := 0) rfl rfl rfl hl.1 (Nat.le_of_ble_eq_true rfl) dL_law_329 ⟨by show _ ≤ 600000; omega, by show _ ≤ 7302250; omega⟩) hD2 hP hap.symm hS hA (fun bw bc H locs hP2 hD2 hP hap hS => ?_)
  refine lv_icmp_eq (tgt := 1609) hx hb dL_law_332 (by decide) (fun _ => ?_) (fun q => absurd rfl q)
  refine W.widen (k := cl + 2) (n := S1 + Pot σ) (by omega) (by omega) ?_
  exact kk _ _ _ _ σ τ _ _ ls hR ⟨hP, hD, hP2, hD2, hap.symm, hS⟩ hl
set_option maxRecDepth 100000 in
set_option maxHeartbeats 4000000 in
theorem law_3 {p : Program} {l : Launch} {e : Env} {s : State} {m : MethodId} {below : List Frame} {meth : Method} {c : Code} {D : va_G} {cy : Nat → ClassId} {ad ae : Nat → Nat} {b L i cl S1 : Nat} {xs : Nat → Int32} {x3 : Int32} {aw ac bw bc : Nat} {σ τ : St} {H : Heap} {locs : List Loc} {ls : Array Slot} (S : CallFix p m c cL_law 4 s #[Value.ref b] (lawC :: uw) RL) (hX : va_X b L xs s s.heap) (hbl : b < s.heap.size) (hK : KU D cy s) (ex : x3 = nI i) (h6 : i + 6 ≤ L) (hL : L ≤ 3072) (hcl : cl + 2 ≤ 600000) (hS1 : S1 + 200000 ≤ 7302250) (hR : Rel σ τ) (hI : LawIn D cy s ad ae aw ac bw bc σ τ H locs) (hl : lv_has ls 4 [(0, .ref b), (1, .ref (ad 0)), (2, .ref (ae 0)), (3, .int x3)]) (kk : LawGo p l e s m below meth c D cy ad ae b cl S1 x3) : W p l e room_1 s m #[Value.ref b] below meth c H locs cl (S1 + Pot σ) (lw_Z below #[Value.ref b] s) (F0 m 337 ls []) := by
  have hx := S.1
  have hb := S.2.1
  have hpl := pot_le hR
  obtain ⟨hP, hD, hP2, hD2, hap, hS⟩ := hI
  have hA : ∀ q : Nat, s.heap.size ≤ q → (fun q : Nat => s.heap.size ≤ q) q := fun _ h => h
  have hbA : ¬ (fun q : Nat => s.heap.size ≤ q) b := Nat.not_le.mpr hbl
  refine lv_aload_n hx hb dL_law_337 rfl (lv_at hl 1 rfl) ?_
  refine lv_aload_n hx hb dL_law_338 rfl (lv_at hl 0 rfl) ?_
  refine lv_iload_n hx hb dL_law_339 rfl (lv_at hl 3 rfl) ?_
  refine lv_iconst (v := 1) hx hb dL_law_340 (by decide) ?_
  refine lv_iadd hx hb dL_law_341 ?_
  refine va_sld hx hb hX hbl hbA hS (in6 (k := 1) ex (by decide) h6 hL) dL_law_342 ?_
  obtain ⟨r, h1, h2⟩ := e_steps hR (xs (x3 + 1).toNatClampNeg)
  refine t_calli (u_runV (rest := []) S (c_X9_steps l D cy ad σ (xs (x3 + 1).toNatClampNeg) r h1 aw ac H.size) iX9_steps vX9_steps q351 ⟨Nat.le_of_ble_eq_true rfl, Nat.le_of_ble_eq_true rfl⟩ hK hP hD (q0 := 0) rfl rfl rfl hl.1 (Nat.le_of_ble_eq_true rfl) dL_law_343 ⟨by show _ ≤ 600000; omega, by show _ ≤ 7302250; omega⟩) hD hP2 hap hS hA (fun aw ac H locs hP hD hP2 hap hS => ?_)
  refine lv_aload_n hx hb dL_law_346 rfl (lv_at hl 2 rfl) ?_
  refine lv_aload_n hx hb dL_law_347 rfl (lv_at hl 0 rfl) ?_
  refine lv_iload_n hx hb dL_law_348 rfl (lv_at hl 3 rfl) ?_
  refine lv_iconst (v := 1) hx hb dL_law_349 (by decide) ?_
  refine lv_iadd hx hb dL_law_350 ?_
  refine va_sld hx hb hX hbl hbA hS (in6 (k := 1) ex (by decide) h6 hL) dL_law_351 ?_
  refine t_calli (u_runV (rest := [.int r]) S (c_X10_steps l D cy ae τ (xs (x3 + 1).toNatClampNeg) r h2 bw bc H.size) iX10_steps vX10_steps q1135 ⟨Nat.le_of_ble_eq_true rfl, Nat.le_of_ble_eq_true rfl⟩ hK hP2 hD2 (q0 := 0) rfl rfl rfl hl.1 (Nat.le_of_ble_eq_true rfl) dL_law_352 ⟨by show _ ≤ 600000; omega, by show _ ≤ 7302250; omega⟩) hD2 hP hap.symm hS hA (fun bw bc H locs hP2 hD2 hP hap hS => ?_)
  refine lv_icmp_eq (tgt := 1609) hx hb dL_law_355 (by decide) (fun _ => ?_) (fun q => absurd rfl q)
  refine W.widen (k := cl + 2) (n := S1 + Pot σ) (by omega) (by omega) ?_
  exact kk _ _ _ _ σ τ _ _ ls hR ⟨hP, hD, hP2, hD2, hap.symm, hS⟩ hl
set_option maxRecDepth 100000 in
set_option maxHeartbeats 4000000 in
theorem law_4 {p : Program} {l : Launch} {e : Env} {s : State} {m : MethodId} {below : List Frame} {meth : Method} {c : Code} {D : va_G} {cy : Nat → ClassId} {ad ae : Nat → Nat} {b L i cl S1 : Nat} {xs : Nat → Int32} {x3 : Int32} {aw ac bw bc : Nat} {σ τ : St} {H : Heap} {locs : List Loc} {ls : Array Slot} (S : CallFix p m c cL_law 4 s #[Value.ref b] (lawC :: uw) RL) (hX : va_X b L xs s s.heap) (hbl : b < s.heap.size) (hK : KU D cy s) (ex : x3 = nI i) (h6 : i + 6 ≤ L) (hL : L ≤ 3072) (hcl : cl + 2 ≤ 600000) (hS1 : S1 + 200000 ≤ 7302250) (hR : Rel σ τ) (hI : LawIn D cy s ad ae aw ac bw bc σ τ H locs) (hl : lv_has ls 4 [(0, .ref b), (1, .ref (ad 0)), (2, .ref (ae 0)), (3, .int x3)]) (kk : LawGo p l e s m below meth c D cy ad ae b cl S1 x3) : W p l e room_1 s m #[Value.ref b] below meth c H locs cl (S1 + Pot σ) (lw_Z below #[Value.ref b] s) (F0 m 360 ls []) := by
  have hx := S.1
  have hb := S.2.1
  have hpl := pot_le hR
  obtain ⟨hP, hD, hP2, hD2, hap, hS⟩ := hI
  have hA : ∀ q : Nat, s.heap.size ≤ q → (fun q : Nat => s.heap.size ≤ q) q := fun _ h => h
  have hbA : ¬ (fun q : Nat => s.heap.size ≤ q) b := Nat.not_le.mpr hbl
  refine lv_aload_n hx hb dL_law_360 rfl (lv_at hl 1 rfl) ?_
  refine lv_aload_n hx hb dL_law_361 rfl (lv_at hl 0 rfl) ?_
  refine lv_iload_n hx hb dL_law_362 rfl (lv_at hl 3 rfl) ?_
  refine lv_iconst (v := 1) hx hb dL_law_363 (by decide) ?_
  refine lv_iadd hx hb dL_law_364 ?_
  refine va_sld hx hb hX hbl hbA hS (in6 (k := 1) ex (by decide) h6 hL) dL_law_365 ?_
  refine lv_aload_n hx hb dL_law_366 rfl (lv_at hl 0 rfl) ?_
  refine lv_iload_n hx hb dL_law_367 rfl (lv_at hl 3 rfl) ?_
  refine lv_iconst (v := 2) hx hb dL_law_368 (by decide) ?_
  refine lv_iadd hx hb dL_law_369 ?_
  refine va_sld hx hb hX hbl hbA hS (in6 (k := 2) ex (by decide) h6 hL) dL_law_370 ?_
  obtain ⟨r, h1, h2⟩ := e_layer hR (xs (x3 + 1).toNatClampNeg) (xs (x3 + 2).toNatClampNeg)
  refine t_calli (u_runV (rest := []) S (c_X9_layer l D cy ad σ (xs (x3 + 1).toNatClampNeg) (xs (x3 + 2).toNatClampNeg) r h1 aw ac H.size) iX9_layer vX9_layer q359 ⟨Nat.le_of_ble_eq_true rfl, Nat.le_of_ble_eq_true rfl⟩ hK hP hD (q0 := 0) rfl rfl rfl hl.1 (Nat.le_of_ble_eq_true rfl) dL_law_371 ⟨by show _ ≤ 600000; omega, by show _ ≤ 7302250; omega⟩) hD hP2 hap hS hA (fun aw ac H locs hP hD hP2 hap hS => ?_)
  refine lv_aload_n hx hb dL_law_374 rfl (lv_at hl 2 rfl) ?_
  refine lv_aload_n hx hb dL_law_375 rfl (lv_at hl 0 rfl) ?_
  refine lv_iload_n hx hb dL_law_376 rfl (lv_at hl 3 rfl) ?_
  refine lv_iconst (v := 1) hx hb dL_law_377 (by decide) ?_
  refine lv_iadd hx hb dL_law_378 ?_
  refine va_sld hx hb hX hbl hbA hS (in6 (k := 1) ex (by decide) h6 hL) dL_law_379 ?_
  refine lv_aload_n hx hb dL_law_380 rfl (lv_at hl 0 rfl) ?_
  refine lv_iload_n hx hb dL_law_381 rfl (lv_at hl 3 rfl) ?_
  refine lv_iconst (v := 2) hx hb dL_law_382 (by decide) ?_
  refine lv_iadd hx hb dL_law_383 ?_
  refine va_sld hx hb hX hbl hbA hS (in6 (k := 2) ex (by decide) h6 hL) dL_law_384 ?_
  refine t_calli (u_runV (rest := [.int r]) S (c_X10_layer l D cy ae τ (xs (x3 + 1).toNatClampNeg) (xs (x3 + 2).toNatClampNeg) r h2 bw bc H.size) iX10_layer vX10_layer q1146 ⟨Nat.le_of_ble_eq_true rfl, Nat.le_of_ble_eq_true rfl⟩ hK hP2 hD2 (q0 := 0) rfl rfl rfl hl.1 (Nat.le_of_ble_eq_true rfl) dL_law_385 ⟨by show _ ≤ 600000; omega, by show _ ≤ 7302250; omega⟩) hD2 hP hap.symm hS hA (fun bw bc H locs hP2 hD2 hP hap hS => ?_)
  refine lv_icmp_eq (tgt := 1609) hx hb dL_law_388 (by decide) (fun _ => ?_) (fun q => absurd rfl q)
  refine W.widen (k := cl + 2) (n := S1 + Pot σ) (by omega) (by omega) ?_
  exact kk _ _ _ _ σ τ _ _ ls hR ⟨hP, hD, hP2, hD2, hap.symm, hS⟩ hl
set_option maxRecDepth 100000 in
set_option maxHeartbeats 4000000 in
theorem law_5 {p : Program} {l : Launch} {e : Env} {s : State} {m : MethodId} {below : List Frame} {meth : Method} {c : Code} {D : va_G} {cy : Nat → ClassId} {ad ae : Nat → Nat} {b L i cl S1 : Nat} {xs : Nat → Int32} {x3 : Int32} {aw ac bw bc : Nat} {σ τ : St} {H : Heap} {locs : List Loc} {ls : Array Slot} (S : CallFix p m c cL_law 4 s #[Value.ref b] (lawC :: uw) RL) (hX : va_X b L xs s s.heap) (hbl : b < s.heap.size) (hK : KU D cy s) (ex : x3 = nI i) (h6 : i + 6 ≤ L) (hL : L ≤ 3072) (hcl : cl + 2 ≤ 600000) (hS1 : S1 + 200000 ≤ 7302250) (hR : Rel σ τ) (hI : LawIn D cy s ad ae aw ac bw bc σ τ H locs) (hl : lv_has ls 4 [(0, .ref b), (1, .ref (ad 0)), (2, .ref (ae 0)), (3, .int x3)]) (kk : LawGo p l e s m below meth c D cy ad ae b cl S1 x3) : W p l e room_1 s m #[Value.ref b] below meth c H locs cl (S1 + Pot σ) (lw_Z below #[Value.ref b] s) (F0 m 393 ls []) := by
  have hx := S.1
  have hb := S.2.1
  have hpl := pot_le hR
  obtain ⟨hP, hD, hP2, hD2, hap, hS⟩ := hI
  have hA : ∀ q : Nat, s.heap.size ≤ q → (fun q : Nat => s.heap.size ≤ q) q := fun _ h => h
  have hbA : ¬ (fun q : Nat => s.heap.size ≤ q) b := Nat.not_le.mpr hbl
  refine lv_aload_n hx hb dL_law_393 rfl (lv_at hl 1 rfl) ?_
  refine lv_aload_n hx hb dL_law_394 rfl (lv_at hl 0 rfl) ?_
  refine lv_iload_n hx hb dL_law_395 rfl (lv_at hl 3 rfl) ?_
  refine lv_iconst (v := 1) hx hb dL_law_396 (by decide) ?_
  refine lv_iadd hx hb dL_law_397 ?_
  refine va_sld hx hb hX hbl hbA hS (in6 (k := 1) ex (by decide) h6 hL) dL_law_398 ?_
  obtain ⟨r, σ', τ', h1, h2, hrel⟩ := e_man hR (xs (x3 + 1).toNatClampNeg)
  have hpot : Pot σ' = Pot σ := by unfold Pot; rw [show gn σ' = gn σ from g_man σ (xs (x3 + 1).toNatClampNeg) _ h1]
  refine t_calli (u_runV (rest := []) S (c_X9_man l D cy ad σ (xs (x3 + 1).toNatClampNeg) (r, σ') h1 aw ac H.size) iX9_man vX9_man q368 ⟨Nat.le_of_ble_eq_true rfl, Nat.le_of_ble_eq_true rfl⟩ hK hP hD (q0 := 0) rfl rfl rfl hl.1 (Nat.le_of_ble_eq_true rfl) dL_law_399 ⟨by show _ ≤ 600000; omega, by show _ ≤ 7302250; omega⟩) hD hP2 hap hS hA (fun aw ac H locs hP hD hP2 hap hS => ?_)
  refine lv_aload_n hx hb dL_law_402 rfl (lv_at hl 2 rfl) ?_
  refine lv_aload_n hx hb dL_law_403 rfl (lv_at hl 0 rfl) ?_
  refine lv_iload_n hx hb dL_law_404 rfl (lv_at hl 3 rfl) ?_
  refine lv_iconst (v := 1) hx hb dL_law_405 (by decide) ?_
  refine lv_iadd hx hb dL_law_406 ?_
  refine va_sld hx hb hX hbl hbA hS (in6 (k := 1) ex (by decide) h6 hL) dL_law_407 ?_
  refine t_calli (u_runV (rest := [.int r]) S (c_X10_man l D cy ae τ (xs (x3 + 1).toNatClampNeg) (r, τ') h2 bw bc H.size) iX10_man vX10_man q1154 ⟨Nat.le_of_ble_eq_true rfl, Nat.le_of_ble_eq_true rfl⟩ hK hP2 hD2 (q0 := 0) rfl rfl rfl hl.1 (Nat.le_of_ble_eq_true rfl) dL_law_408 ⟨by show _ ≤ 600000; omega, by show _ ≤ 7302250; omega⟩) hD2 hP hap.symm hS hA (fun bw bc H locs hP2 hD2 hP hap hS => ?_)
  refine lv_icmp_eq (tgt := 1609) hx hb dL_law_411 (by decide) (fun _ => ?_) (fun q => absurd rfl q)
  refine W.widen (k := cl + 2) (n := S1 + Pot σ') (by omega) (by omega) ?_
  exact kk _ _ _ _ σ' τ' _ _ ls hrel ⟨hP, hD, hP2, hD2, hap.symm, hS⟩ hl
set_option maxRecDepth 100000 in
set_option maxHeartbeats 4000000 in
theorem law_6 {p : Program} {l : Launch} {e : Env} {s : State} {m : MethodId} {below : List Frame} {meth : Method} {c : Code} {D : va_G} {cy : Nat → ClassId} {ad ae : Nat → Nat} {b L i cl S1 : Nat} {xs : Nat → Int32} {x3 : Int32} {aw ac bw bc : Nat} {σ τ : St} {H : Heap} {locs : List Loc} {ls : Array Slot} (S : CallFix p m c cL_law 4 s #[Value.ref b] (lawC :: uw) RL) (hX : va_X b L xs s s.heap) (hbl : b < s.heap.size) (hK : KU D cy s) (ex : x3 = nI i) (h6 : i + 6 ≤ L) (hL : L ≤ 3072) (hcl : cl + 2 ≤ 600000) (hS1 : S1 + 200000 ≤ 7302250) (hR : Rel σ τ) (hI : LawIn D cy s ad ae aw ac bw bc σ τ H locs) (hl : lv_has ls 4 [(0, .ref b), (1, .ref (ad 0)), (2, .ref (ae 0)), (3, .int x3)]) (kk : LawGo p l e s m below meth c D cy ad ae b cl S1 x3) : W p l e room_1 s m #[Value.ref b] below meth c H locs cl (S1 + Pot σ) (lw_Z below #[Value.ref b] s) (F0 m 416 ls []) := by
  have hx := S.1
  have hb := S.2.1
  have hpl := pot_le hR
  obtain ⟨hP, hD, hP2, hD2, hap, hS⟩ := hI
  have hA : ∀ q : Nat, s.heap.size ≤ q → (fun q : Nat => s.heap.size ≤ q) q := fun _ h => h
  have hbA : ¬ (fun q : Nat => s.heap.size ≤ q) b := Nat.not_le.mpr hbl
  refine lv_aload_n hx hb dL_law_416 rfl (lv_at hl 1 rfl) ?_
  refine lv_aload_n hx hb dL_law_417 rfl (lv_at hl 0 rfl) ?_
  refine lv_iload_n hx hb dL_law_418 rfl (lv_at hl 3 rfl) ?_
  refine lv_iconst (v := 1) hx hb dL_law_419 (by decide) ?_
  refine lv_iadd hx hb dL_law_420 ?_
  refine va_sld hx hb hX hbl hbA hS (in6 (k := 1) ex (by decide) h6 hL) dL_law_421 ?_
  obtain ⟨r, h1, h2⟩ := e_breath hR (xs (x3 + 1).toNatClampNeg)
  refine t_calli (u_runV (rest := []) S (c_X9_breath l D cy ad σ (xs (x3 + 1).toNatClampNeg) r h1 aw ac H.size) iX9_breath vX9_breath q376 ⟨Nat.le_of_ble_eq_true rfl, Nat.le_of_ble_eq_true rfl⟩ hK hP hD (q0 := 0) rfl rfl rfl hl.1 (Nat.le_of_ble_eq_true rfl) dL_law_422 ⟨by show _ ≤ 600000; omega, by show _ ≤ 7302250; omega⟩) hD hP2 hap hS hA (fun aw ac H locs hP hD hP2 hap hS => ?_)
  refine lv_aload_n hx hb dL_law_425 rfl (lv_at hl 2 rfl) ?_
  refine lv_aload_n hx hb dL_law_426 rfl (lv_at hl 0 rfl) ?_
  refine lv_iload_n hx hb dL_law_427 rfl (lv_at hl 3 rfl) ?_
  refine lv_iconst (v := 1) hx hb dL_law_428 (by decide) ?_
  refine lv_iadd hx hb dL_law_429 ?_
  refine va_sld hx hb hX hbl hbA hS (in6 (k := 1) ex (by decide) h6 hL) dL_law_430 ?_
  refine t_calli (u_runV (rest := [.int r]) S (c_X10_breath l D cy ae τ (xs (x3 + 1).toNatClampNeg) r h2 bw bc H.size) iX10_breath vX10_breath q1160 ⟨Nat.le_of_ble_eq_true rfl, Nat.le_of_ble_eq_true rfl⟩ hK hP2 hD2 (q0 := 0) rfl rfl rfl hl.1 (Nat.le_of_ble_eq_true rfl) dL_law_431 ⟨by show _ ≤ 600000; omega, by show _ ≤ 7302250; omega⟩) hD2 hP hap.symm hS hA (fun bw bc H locs hP2 hD2 hP hap hS => ?_)
  refine lv_icmp_eq (tgt := 1609) hx hb dL_law_434 (by decide) (fun _ => ?_) (fun q => absurd rfl q)
  refine W.widen (k := cl + 2) (n := S1 + Pot σ) (by omega) (by omega) ?_
  exact kk _ _ _ _ σ τ _ _ ls hR ⟨hP, hD, hP2, hD2, hap.symm, hS⟩ hl
set_option maxRecDepth 100000 in
set_option maxHeartbeats 4000000 in
theorem law_7 {p : Program} {l : Launch} {e : Env} {s : State} {m : MethodId} {below : List Frame} {meth : Method} {c : Code} {D : va_G} {cy : Nat → ClassId} {ad ae : Nat → Nat} {b L i cl S1 : Nat} {xs : Nat → Int32} {x3 : Int32} {aw ac bw bc : Nat} {σ τ : St} {H : Heap} {locs : List Loc} {ls : Array Slot} (S : CallFix p m c cL_law 4 s #[Value.ref b] (lawC :: uw) RL) (hX : va_X b L xs s s.heap) (hbl : b < s.heap.size) (hK : KU D cy s) (ex : x3 = nI i) (h6 : i + 6 ≤ L) (hL : L ≤ 3072) (hcl : cl + 2 ≤ 600000) (hS1 : S1 + 200000 ≤ 7302250) (hR : Rel σ τ) (hI : LawIn D cy s ad ae aw ac bw bc σ τ H locs) (hl : lv_has ls 4 [(0, .ref b), (1, .ref (ad 0)), (2, .ref (ae 0)), (3, .int x3)]) (kk : LawGo p l e s m below meth c D cy ad ae b cl S1 x3) : W p l e room_1 s m #[Value.ref b] below meth c H locs cl (S1 + Pot σ) (lw_Z below #[Value.ref b] s) (F0 m 439 ls []) := by
  have hx := S.1
  have hb := S.2.1
  have hpl := pot_le hR
  obtain ⟨hP, hD, hP2, hD2, hap, hS⟩ := hI
  have hA : ∀ q : Nat, s.heap.size ≤ q → (fun q : Nat => s.heap.size ≤ q) q := fun _ h => h
  have hbA : ¬ (fun q : Nat => s.heap.size ≤ q) b := Nat.not_le.mpr hbl
  refine lv_aload_n hx hb dL_law_439 rfl (lv_at hl 1 rfl) ?_
  refine lv_aload_n hx hb dL_law_440 rfl (lv_at hl 0 rfl) ?_
  refine lv_iload_n hx hb dL_law_441 rfl (lv_at hl 3 rfl) ?_
  refine lv_iconst (v := 1) hx hb dL_law_442 (by decide) ?_
  refine lv_iadd hx hb dL_law_443 ?_
  refine va_sld hx hb hX hbl hbA hS (in6 (k := 1) ex (by decide) h6 hL) dL_law_444 ?_
  obtain ⟨r, σ', τ', h1, h2, hrel⟩ := e_rest hR (xs (x3 + 1).toNatClampNeg)
  have hpot : Pot σ' = Pot σ := by unfold Pot; rw [show gn σ' = gn σ from g_rest σ (xs (x3 + 1).toNatClampNeg) _ h1]
  refine t_calli (u_runV (rest := []) S (c_X9_rest l D cy ad σ (xs (x3 + 1).toNatClampNeg) (r, σ') h1 aw ac H.size) iX9_rest vX9_rest q380 ⟨Nat.le_of_ble_eq_true rfl, Nat.le_of_ble_eq_true rfl⟩ hK hP hD (q0 := 0) rfl rfl rfl hl.1 (Nat.le_of_ble_eq_true rfl) dL_law_445 ⟨by show _ ≤ 600000; omega, by show _ ≤ 7302250; omega⟩) hD hP2 hap hS hA (fun aw ac H locs hP hD hP2 hap hS => ?_)
  refine lv_aload_n hx hb dL_law_448 rfl (lv_at hl 2 rfl) ?_
  refine lv_aload_n hx hb dL_law_449 rfl (lv_at hl 0 rfl) ?_
  refine lv_iload_n hx hb dL_law_450 rfl (lv_at hl 3 rfl) ?_
  refine lv_iconst (v := 1) hx hb dL_law_451 (by decide) ?_
  refine lv_iadd hx hb dL_law_452 ?_
  refine va_sld hx hb hX hbl hbA hS (in6 (k := 1) ex (by decide) h6 hL) dL_law_453 ?_
  refine t_calli (u_runV (rest := [.int r]) S (c_X10_rest l D cy ae τ (xs (x3 + 1).toNatClampNeg) (r, τ') h2 bw bc H.size) iX10_rest vX10_rest q1164 ⟨Nat.le_of_ble_eq_true rfl, Nat.le_of_ble_eq_true rfl⟩ hK hP2 hD2 (q0 := 0) rfl rfl rfl hl.1 (Nat.le_of_ble_eq_true rfl) dL_law_454 ⟨by show _ ≤ 600000; omega, by show _ ≤ 7302250; omega⟩) hD2 hP hap.symm hS hA (fun bw bc H locs hP2 hD2 hP hap hS => ?_)
  refine lv_icmp_eq (tgt := 1609) hx hb dL_law_457 (by decide) (fun _ => ?_) (fun q => absurd rfl q)
  refine W.widen (k := cl + 2) (n := S1 + Pot σ') (by omega) (by omega) ?_
  exact kk _ _ _ _ σ' τ' _ _ ls hrel ⟨hP, hD, hP2, hD2, hap.symm, hS⟩ hl
set_option maxRecDepth 100000 in
set_option maxHeartbeats 4000000 in
theorem law_8 {p : Program} {l : Launch} {e : Env} {s : State} {m : MethodId} {below : List Frame} {meth : Method} {c : Code} {D : va_G} {cy : Nat → ClassId} {ad ae : Nat → Nat} {b L i cl S1 : Nat} {xs : Nat → Int32} {x3 : Int32} {aw ac bw bc : Nat} {σ τ : St} {H : Heap} {locs : List Loc} {ls : Array Slot} (S : CallFix p m c cL_law 4 s #[Value.ref b] (lawC :: uw) RL) (hX : va_X b L xs s s.heap) (hbl : b < s.heap.size) (hK : KU D cy s) (ex : x3 = nI i) (h6 : i + 6 ≤ L) (hL : L ≤ 3072) (hcl : cl + 2 ≤ 600000) (hS1 : S1 + 200000 ≤ 7302250) (hR : Rel σ τ) (hI : LawIn D cy s ad ae aw ac bw bc σ τ H locs) (hl : lv_has ls 4 [(0, .ref b), (1, .ref (ad 0)), (2, .ref (ae 0)), (3, .int x3)]) (kk : LawGo p l e s m below meth c D cy ad ae b cl S1 x3) : W p l e room_1 s m #[Value.ref b] below meth c H locs cl (S1 + Pot σ) (lw_Z below #[Value.ref b] s) (F0 m 462 ls []) := by
  have hx := S.1
  have hb := S.2.1
  have hpl := pot_le hR
  obtain ⟨hP, hD, hP2, hD2, hap, hS⟩ := hI
  have hA : ∀ q : Nat, s.heap.size ≤ q → (fun q : Nat => s.heap.size ≤ q) q := fun _ h => h
  have hbA : ¬ (fun q : Nat => s.heap.size ≤ q) b := Nat.not_le.mpr hbl
  refine lv_aload_n hx hb dL_law_462 rfl (lv_at hl 1 rfl) ?_
  refine lv_aload_n hx hb dL_law_463 rfl (lv_at hl 0 rfl) ?_
  refine lv_iload_n hx hb dL_law_464 rfl (lv_at hl 3 rfl) ?_
  refine lv_iconst (v := 1) hx hb dL_law_465 (by decide) ?_
  refine lv_iadd hx hb dL_law_466 ?_
  refine va_sld hx hb hX hbl hbA hS (in6 (k := 1) ex (by decide) h6 hL) dL_law_467 ?_
  refine lv_aload_n hx hb dL_law_468 rfl (lv_at hl 0 rfl) ?_
  refine lv_iload_n hx hb dL_law_469 rfl (lv_at hl 3 rfl) ?_
  refine lv_iconst (v := 2) hx hb dL_law_470 (by decide) ?_
  refine lv_iadd hx hb dL_law_471 ?_
  refine va_sld hx hb hX hbl hbA hS (in6 (k := 2) ex (by decide) h6 hL) dL_law_472 ?_
  refine lv_aload_n hx hb dL_law_473 rfl (lv_at hl 0 rfl) ?_
  refine lv_iload_n hx hb dL_law_474 rfl (lv_at hl 3 rfl) ?_
  refine lv_iconst (v := 3) hx hb dL_law_475 (by decide) ?_
  refine lv_iadd hx hb dL_law_476 ?_
  refine va_sld hx hb hX hbl hbA hS (in6 (k := 3) ex (by decide) h6 hL) dL_law_477 ?_
  obtain ⟨r, h1, h2⟩ := e_can hR (xs (x3 + 1).toNatClampNeg) (xs (x3 + 2).toNatClampNeg) (xs (x3 + 3).toNatClampNeg)
  refine t_calli (u_runV (rest := []) S (c_X9_can l D cy ad σ (xs (x3 + 1).toNatClampNeg) (xs (x3 + 2).toNatClampNeg) (xs (x3 + 3).toNatClampNeg) r h1 aw ac H.size) iX9_can vX9_can q391 ⟨Nat.le_of_ble_eq_true rfl, Nat.le_of_ble_eq_true rfl⟩ hK hP hD (q0 := 0) rfl rfl rfl hl.1 (Nat.le_of_ble_eq_true rfl) dL_law_478 ⟨by show _ ≤ 600000; omega, by show _ ≤ 7302250; omega⟩) hD hP2 hap hS hA (fun aw ac H locs hP hD hP2 hap hS => ?_)
  refine lv_aload_n hx hb dL_law_481 rfl (lv_at hl 2 rfl) ?_
  refine lv_aload_n hx hb dL_law_482 rfl (lv_at hl 0 rfl) ?_
  refine lv_iload_n hx hb dL_law_483 rfl (lv_at hl 3 rfl) ?_
  refine lv_iconst (v := 1) hx hb dL_law_484 (by decide) ?_
  refine lv_iadd hx hb dL_law_485 ?_
  refine va_sld hx hb hX hbl hbA hS (in6 (k := 1) ex (by decide) h6 hL) dL_law_486 ?_
  refine lv_aload_n hx hb dL_law_487 rfl (lv_at hl 0 rfl) ?_
  refine lv_iload_n hx hb dL_law_488 rfl (lv_at hl 3 rfl) ?_
  refine lv_iconst (v := 2) hx hb dL_law_489 (by decide) ?_
  refine lv_iadd hx hb dL_law_490 ?_
  refine va_sld hx hb hX hbl hbA hS (in6 (k := 2) ex (by decide) h6 hL) dL_law_491 ?_
  refine lv_aload_n hx hb dL_law_492 rfl (lv_at hl 0 rfl) ?_
  refine lv_iload_n hx hb dL_law_493 rfl (lv_at hl 3 rfl) ?_
  refine lv_iconst (v := 3) hx hb dL_law_494 (by decide) ?_
  refine lv_iadd hx hb dL_law_495 ?_
  refine va_sld hx hb hX hbl hbA hS (in6 (k := 3) ex (by decide) h6 hL) dL_law_496 ?_
  refine t_calli (u_runV (rest := [.int r]) S (c_X10_can l D cy ae τ (xs (x3 + 1).toNatClampNeg) (xs (x3 + 2).toNatClampNeg) (xs (x3 + 3).toNatClampNeg) r h2 bw bc H.size) iX10_can vX10_can q1169 ⟨Nat.le_of_ble_eq_true rfl, Nat.le_of_ble_eq_true rfl⟩ hK hP2 hD2 (q0 := 0) rfl rfl rfl hl.1 (Nat.le_of_ble_eq_true rfl) dL_law_497 ⟨by show _ ≤ 600000; omega, by show _ ≤ 7302250; omega⟩) hD2 hP hap.symm hS hA (fun bw bc H locs hP2 hD2 hP hap hS => ?_)
  refine lv_icmp_eq (tgt := 1609) hx hb dL_law_500 (by decide) (fun _ => ?_) (fun q => absurd rfl q)
  refine W.widen (k := cl + 2) (n := S1 + Pot σ) (by omega) (by omega) ?_
  exact kk _ _ _ _ σ τ _ _ ls hR ⟨hP, hD, hP2, hD2, hap.symm, hS⟩ hl
set_option maxRecDepth 100000 in
set_option maxHeartbeats 4000000 in
theorem law_9 {p : Program} {l : Launch} {e : Env} {s : State} {m : MethodId} {below : List Frame} {meth : Method} {c : Code} {D : va_G} {cy : Nat → ClassId} {ad ae : Nat → Nat} {b L i cl S1 : Nat} {xs : Nat → Int32} {x3 : Int32} {aw ac bw bc : Nat} {σ τ : St} {H : Heap} {locs : List Loc} {ls : Array Slot} (S : CallFix p m c cL_law 4 s #[Value.ref b] (lawC :: uw) RL) (hX : va_X b L xs s s.heap) (hbl : b < s.heap.size) (hK : KU D cy s) (ex : x3 = nI i) (h6 : i + 6 ≤ L) (hL : L ≤ 3072) (hcl : cl + 2 ≤ 600000) (hS1 : S1 + 200000 ≤ 7302250) (hR : Rel σ τ) (hI : LawIn D cy s ad ae aw ac bw bc σ τ H locs) (hl : lv_has ls 4 [(0, .ref b), (1, .ref (ad 0)), (2, .ref (ae 0)), (3, .int x3)]) (kk : LawGo p l e s m below meth c D cy ad ae b cl S1 x3) : W p l e room_1 s m #[Value.ref b] below meth c H locs cl (S1 + Pot σ) (lw_Z below #[Value.ref b] s) (F0 m 505 ls []) := by
  have hx := S.1
  have hb := S.2.1
  have hpl := pot_le hR
  obtain ⟨hP, hD, hP2, hD2, hap, hS⟩ := hI
  have hA : ∀ q : Nat, s.heap.size ≤ q → (fun q : Nat => s.heap.size ≤ q) q := fun _ h => h
  have hbA : ¬ (fun q : Nat => s.heap.size ≤ q) b := Nat.not_le.mpr hbl
  refine lv_aload_n hx hb dL_law_505 rfl (lv_at hl 1 rfl) ?_
  refine lv_aload_n hx hb dL_law_506 rfl (lv_at hl 0 rfl) ?_
  refine lv_iload_n hx hb dL_law_507 rfl (lv_at hl 3 rfl) ?_
  refine lv_iconst (v := 1) hx hb dL_law_508 (by decide) ?_
  refine lv_iadd hx hb dL_law_509 ?_
  refine va_sld hx hb hX hbl hbA hS (in6 (k := 1) ex (by decide) h6 hL) dL_law_510 ?_
  refine lv_aload_n hx hb dL_law_511 rfl (lv_at hl 0 rfl) ?_
  refine lv_iload_n hx hb dL_law_512 rfl (lv_at hl 3 rfl) ?_
  refine lv_iconst (v := 2) hx hb dL_law_513 (by decide) ?_
  refine lv_iadd hx hb dL_law_514 ?_
  refine va_sld hx hb hX hbl hbA hS (in6 (k := 2) ex (by decide) h6 hL) dL_law_515 ?_
  obtain ⟨r, h1, h2⟩ := e_fewest hR (xs (x3 + 1).toNatClampNeg) (xs (x3 + 2).toNatClampNeg)
  refine t_calli (u_runV (rest := []) S (c_X9_fewest l D cy ad σ (xs (x3 + 1).toNatClampNeg) (xs (x3 + 2).toNatClampNeg) r h1 aw ac H.size) iX9_fewest vX9_fewest q427 ⟨Nat.le_of_ble_eq_true rfl, Nat.le_of_ble_eq_true rfl⟩ hK hP hD (q0 := 0) rfl rfl rfl hl.1 (Nat.le_of_ble_eq_true rfl) dL_law_516 ⟨by show _ ≤ 600000; omega, by show _ ≤ 7302250; omega⟩) hD hP2 hap hS hA (fun aw ac H locs hP hD hP2 hap hS => ?_)
  refine lv_aload_n hx hb dL_law_519 rfl (lv_at hl 2 rfl) ?_
  refine lv_aload_n hx hb dL_law_520 rfl (lv_at hl 0 rfl) ?_
  refine lv_iload_n hx hb dL_law_521 rfl (lv_at hl 3 rfl) ?_
  refine lv_iconst (v := 1) hx hb dL_law_522 (by decide) ?_
  refine lv_iadd hx hb dL_law_523 ?_
  refine va_sld hx hb hX hbl hbA hS (in6 (k := 1) ex (by decide) h6 hL) dL_law_524 ?_
  refine lv_aload_n hx hb dL_law_525 rfl (lv_at hl 0 rfl) ?_
  refine lv_iload_n hx hb dL_law_526 rfl (lv_at hl 3 rfl) ?_
  refine lv_iconst (v := 2) hx hb dL_law_527 (by decide) ?_
  refine lv_iadd hx hb dL_law_528 ?_
  refine va_sld hx hb hX hbl hbA hS (in6 (k := 2) ex (by decide) h6 hL) dL_law_529 ?_
  refine t_calli (u_runV (rest := [.int r]) S (c_X10_fewest l D cy ae τ (xs (x3 + 1).toNatClampNeg) (xs (x3 + 2).toNatClampNeg) r h2 bw bc H.size) iX10_fewest vX10_fewest q1189 ⟨Nat.le_of_ble_eq_true rfl, Nat.le_of_ble_eq_true rfl⟩ hK hP2 hD2 (q0 := 0) rfl rfl rfl hl.1 (Nat.le_of_ble_eq_true rfl) dL_law_530 ⟨by show _ ≤ 600000; omega, by show _ ≤ 7302250; omega⟩) hD2 hP hap.symm hS hA (fun bw bc H locs hP2 hD2 hP hap hS => ?_)
  refine lv_icmp_eq (tgt := 1609) hx hb dL_law_533 (by decide) (fun _ => ?_) (fun q => absurd rfl q)
  refine W.widen (k := cl + 2) (n := S1 + Pot σ) (by omega) (by omega) ?_
  exact kk _ _ _ _ σ τ _ _ ls hR ⟨hP, hD, hP2, hD2, hap.symm, hS⟩ hl
set_option maxRecDepth 100000 in
set_option maxHeartbeats 4000000 in
theorem law_10 {p : Program} {l : Launch} {e : Env} {s : State} {m : MethodId} {below : List Frame} {meth : Method} {c : Code} {D : va_G} {cy : Nat → ClassId} {ad ae : Nat → Nat} {b L i cl S1 : Nat} {xs : Nat → Int32} {x3 : Int32} {aw ac bw bc : Nat} {σ τ : St} {H : Heap} {locs : List Loc} {ls : Array Slot} (S : CallFix p m c cL_law 4 s #[Value.ref b] (lawC :: uw) RL) (hX : va_X b L xs s s.heap) (hbl : b < s.heap.size) (hK : KU D cy s) (ex : x3 = nI i) (h6 : i + 6 ≤ L) (hL : L ≤ 3072) (hcl : cl + 2 ≤ 600000) (hS1 : S1 + 200000 ≤ 7302250) (hR : Rel σ τ) (hI : LawIn D cy s ad ae aw ac bw bc σ τ H locs) (hl : lv_has ls 4 [(0, .ref b), (1, .ref (ad 0)), (2, .ref (ae 0)), (3, .int x3)]) (kk : LawGo p l e s m below meth c D cy ad ae b cl S1 x3) : W p l e room_1 s m #[Value.ref b] below meth c H locs cl (S1 + Pot σ) (lw_Z below #[Value.ref b] s) (F0 m 538 ls []) := by
  have hx := S.1
  have hb := S.2.1
  have hpl := pot_le hR
  obtain ⟨hP, hD, hP2, hD2, hap, hS⟩ := hI
  have hA : ∀ q : Nat, s.heap.size ≤ q → (fun q : Nat => s.heap.size ≤ q) q := fun _ h => h
  have hbA : ¬ (fun q : Nat => s.heap.size ≤ q) b := Nat.not_le.mpr hbl
  refine lv_aload_n hx hb dL_law_538 rfl (lv_at hl 1 rfl) ?_
  refine lv_aload_n hx hb dL_law_539 rfl (lv_at hl 0 rfl) ?_
  refine lv_iload_n hx hb dL_law_540 rfl (lv_at hl 3 rfl) ?_
  refine lv_iconst (v := 1) hx hb dL_law_541 (by decide) ?_
  refine lv_iadd hx hb dL_law_542 ?_
  refine va_sld hx hb hX hbl hbA hS (in6 (k := 1) ex (by decide) h6 hL) dL_law_543 ?_
  refine lv_aload_n hx hb dL_law_544 rfl (lv_at hl 0 rfl) ?_
  refine lv_iload_n hx hb dL_law_545 rfl (lv_at hl 3 rfl) ?_
  refine lv_iconst (v := 2) hx hb dL_law_546 (by decide) ?_
  refine lv_iadd hx hb dL_law_547 ?_
  refine va_sld hx hb hX hbl hbA hS (in6 (k := 2) ex (by decide) h6 hL) dL_law_548 ?_
  refine lv_aload_n hx hb dL_law_549 rfl (lv_at hl 0 rfl) ?_
  refine lv_iload_n hx hb dL_law_550 rfl (lv_at hl 3 rfl) ?_
  refine lv_iconst (v := 3) hx hb dL_law_551 (by decide) ?_
  refine lv_iadd hx hb dL_law_552 ?_
  refine va_sld hx hb hX hbl hbA hS (in6 (k := 3) ex (by decide) h6 hL) dL_law_553 ?_
  refine lv_aload_n hx hb dL_law_554 rfl (lv_at hl 0 rfl) ?_
  refine lv_iload_n hx hb dL_law_555 rfl (lv_at hl 3 rfl) ?_
  refine lv_iconst (v := 4) hx hb dL_law_556 (by decide) ?_
  refine lv_iadd hx hb dL_law_557 ?_
  refine va_sld hx hb hX hbl hbA hS (in6 (k := 4) ex (by decide) h6 hL) dL_law_558 ?_
  obtain ⟨r, σ', τ', h1, h2, hrel⟩ := e_hoist hR (xs (x3 + 1).toNatClampNeg) (xs (x3 + 2).toNatClampNeg) (xs (x3 + 3).toNatClampNeg) (xs (x3 + 4).toNatClampNeg)
  have hpot : Pot σ' = Pot σ := by unfold Pot; rw [show gn σ' = gn σ from g_hoist σ (xs (x3 + 1).toNatClampNeg) (xs (x3 + 2).toNatClampNeg) (xs (x3 + 3).toNatClampNeg) (xs (x3 + 4).toNatClampNeg) _ h1]
  refine t_calli (u_runV (rest := []) S (c_X9_hoist l D cy ad σ (xs (x3 + 1).toNatClampNeg) (xs (x3 + 2).toNatClampNeg) (xs (x3 + 3).toNatClampNeg) (xs (x3 + 4).toNatClampNeg) (r, σ') h1 aw ac H.size) iX9_hoist vX9_hoist q442 ⟨Nat.le_of_ble_eq_true rfl, Nat.le_of_ble_eq_true rfl⟩ hK hP hD (q0 := 0) rfl rfl rfl hl.1 (Nat.le_of_ble_eq_true rfl) dL_law_559 ⟨by show _ ≤ 600000; omega, by show _ ≤ 7302250; omega⟩) hD hP2 hap hS hA (fun aw ac H locs hP hD hP2 hap hS => ?_)
  refine lv_aload_n hx hb dL_law_562 rfl (lv_at hl 2 rfl) ?_
  refine lv_aload_n hx hb dL_law_563 rfl (lv_at hl 0 rfl) ?_
  refine lv_iload_n hx hb dL_law_564 rfl (lv_at hl 3 rfl) ?_
  refine lv_iconst (v := 1) hx hb dL_law_565 (by decide) ?_
  refine lv_iadd hx hb dL_law_566 ?_
  refine va_sld hx hb hX hbl hbA hS (in6 (k := 1) ex (by decide) h6 hL) dL_law_567 ?_
  refine lv_aload_n hx hb dL_law_568 rfl (lv_at hl 0 rfl) ?_
  refine lv_iload_n hx hb dL_law_569 rfl (lv_at hl 3 rfl) ?_
  refine lv_iconst (v := 2) hx hb dL_law_570 (by decide) ?_
  refine lv_iadd hx hb dL_law_571 ?_
  refine va_sld hx hb hX hbl hbA hS (in6 (k := 2) ex (by decide) h6 hL) dL_law_572 ?_
  refine lv_aload_n hx hb dL_law_573 rfl (lv_at hl 0 rfl) ?_
  refine lv_iload_n hx hb dL_law_574 rfl (lv_at hl 3 rfl) ?_
  refine lv_iconst (v := 3) hx hb dL_law_575 (by decide) ?_
  refine lv_iadd hx hb dL_law_576 ?_
  refine va_sld hx hb hX hbl hbA hS (in6 (k := 3) ex (by decide) h6 hL) dL_law_577 ?_
  refine lv_aload_n hx hb dL_law_578 rfl (lv_at hl 0 rfl) ?_
  refine lv_iload_n hx hb dL_law_579 rfl (lv_at hl 3 rfl) ?_
  refine lv_iconst (v := 4) hx hb dL_law_580 (by decide) ?_
  refine lv_iadd hx hb dL_law_581 ?_
  refine va_sld hx hb hX hbl hbA hS (in6 (k := 4) ex (by decide) h6 hL) dL_law_582 ?_
  refine t_calli (u_runV (rest := [.int r]) S (c_X10_hoist l D cy ae τ (xs (x3 + 1).toNatClampNeg) (xs (x3 + 2).toNatClampNeg) (xs (x3 + 3).toNatClampNeg) (xs (x3 + 4).toNatClampNeg) (r, τ') h2 bw bc H.size) iX10_hoist vX10_hoist q1196 ⟨Nat.le_of_ble_eq_true rfl, Nat.le_of_ble_eq_true rfl⟩ hK hP2 hD2 (q0 := 0) rfl rfl rfl hl.1 (Nat.le_of_ble_eq_true rfl) dL_law_583 ⟨by show _ ≤ 600000; omega, by show _ ≤ 7302250; omega⟩) hD2 hP hap.symm hS hA (fun bw bc H locs hP2 hD2 hP hap hS => ?_)
  refine lv_icmp_eq (tgt := 1609) hx hb dL_law_586 (by decide) (fun _ => ?_) (fun q => absurd rfl q)
  refine W.widen (k := cl + 2) (n := S1 + Pot σ') (by omega) (by omega) ?_
  exact kk _ _ _ _ σ' τ' _ _ ls hrel ⟨hP, hD, hP2, hD2, hap.symm, hS⟩ hl
set_option maxRecDepth 100000 in
set_option maxHeartbeats 4000000 in
theorem law_11 {p : Program} {l : Launch} {e : Env} {s : State} {m : MethodId} {below : List Frame} {meth : Method} {c : Code} {D : va_G} {cy : Nat → ClassId} {ad ae : Nat → Nat} {b L i cl S1 : Nat} {xs : Nat → Int32} {x3 : Int32} {aw ac bw bc : Nat} {σ τ : St} {H : Heap} {locs : List Loc} {ls : Array Slot} (S : CallFix p m c cL_law 4 s #[Value.ref b] (lawC :: uw) RL) (hX : va_X b L xs s s.heap) (hbl : b < s.heap.size) (hK : KU D cy s) (ex : x3 = nI i) (h6 : i + 6 ≤ L) (hL : L ≤ 3072) (hcl : cl + 2 ≤ 600000) (hS1 : S1 + 200000 ≤ 7302250) (hR : Rel σ τ) (hI : LawIn D cy s ad ae aw ac bw bc σ τ H locs) (hl : lv_has ls 4 [(0, .ref b), (1, .ref (ad 0)), (2, .ref (ae 0)), (3, .int x3)]) (kk : LawGo p l e s m below meth c D cy ad ae b cl S1 x3) : W p l e room_1 s m #[Value.ref b] below meth c H locs cl (S1 + Pot σ) (lw_Z below #[Value.ref b] s) (F0 m 591 ls []) := by
  have hx := S.1
  have hb := S.2.1
  have hpl := pot_le hR
  obtain ⟨hP, hD, hP2, hD2, hap, hS⟩ := hI
  have hA : ∀ q : Nat, s.heap.size ≤ q → (fun q : Nat => s.heap.size ≤ q) q := fun _ h => h
  have hbA : ¬ (fun q : Nat => s.heap.size ≤ q) b := Nat.not_le.mpr hbl
  refine lv_aload_n hx hb dL_law_591 rfl (lv_at hl 1 rfl) ?_
  refine lv_aload_n hx hb dL_law_592 rfl (lv_at hl 0 rfl) ?_
  refine lv_iload_n hx hb dL_law_593 rfl (lv_at hl 3 rfl) ?_
  refine lv_iconst (v := 1) hx hb dL_law_594 (by decide) ?_
  refine lv_iadd hx hb dL_law_595 ?_
  refine va_sld hx hb hX hbl hbA hS (in6 (k := 1) ex (by decide) h6 hL) dL_law_596 ?_
  obtain ⟨r, σ', τ', h1, h2, hrel⟩ := e_rope hR (xs (x3 + 1).toNatClampNeg)
  have hpot : Pot σ' = Pot σ := by unfold Pot; rw [show gn σ' = gn σ from g_rope σ (xs (x3 + 1).toNatClampNeg) _ h1]
  refine t_calli (u_runV (rest := []) S (c_X9_rope l D cy ad σ (xs (x3 + 1).toNatClampNeg) (r, σ') h1 aw ac H.size) iX9_rope vX9_rope q469 ⟨Nat.le_of_ble_eq_true rfl, Nat.le_of_ble_eq_true rfl⟩ hK hP hD (q0 := 0) rfl rfl rfl hl.1 (Nat.le_of_ble_eq_true rfl) dL_law_597 ⟨by show _ ≤ 600000; omega, by show _ ≤ 7302250; omega⟩) hD hP2 hap hS hA (fun aw ac H locs hP hD hP2 hap hS => ?_)
  refine lv_aload_n hx hb dL_law_600 rfl (lv_at hl 2 rfl) ?_
  refine lv_aload_n hx hb dL_law_601 rfl (lv_at hl 0 rfl) ?_
  refine lv_iload_n hx hb dL_law_602 rfl (lv_at hl 3 rfl) ?_
  refine lv_iconst (v := 1) hx hb dL_law_603 (by decide) ?_
  refine lv_iadd hx hb dL_law_604 ?_
  refine va_sld hx hb hX hbl hbA hS (in6 (k := 1) ex (by decide) h6 hL) dL_law_605 ?_
  refine t_calli (u_runV (rest := [.int r]) S (c_X10_rope l D cy ae τ (xs (x3 + 1).toNatClampNeg) (r, τ') h2 bw bc H.size) iX10_rope vX10_rope q1212 ⟨Nat.le_of_ble_eq_true rfl, Nat.le_of_ble_eq_true rfl⟩ hK hP2 hD2 (q0 := 0) rfl rfl rfl hl.1 (Nat.le_of_ble_eq_true rfl) dL_law_606 ⟨by show _ ≤ 600000; omega, by show _ ≤ 7302250; omega⟩) hD2 hP hap.symm hS hA (fun bw bc H locs hP2 hD2 hP hap hS => ?_)
  refine lv_icmp_eq (tgt := 1609) hx hb dL_law_609 (by decide) (fun _ => ?_) (fun q => absurd rfl q)
  refine W.widen (k := cl + 2) (n := S1 + Pot σ') (by omega) (by omega) ?_
  exact kk _ _ _ _ σ' τ' _ _ ls hrel ⟨hP, hD, hP2, hD2, hap.symm, hS⟩ hl
